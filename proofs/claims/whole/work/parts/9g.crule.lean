/-! the class reads lines of rules -/
abbrev Rq : Type := Nat × (Nat → List Nat) × (Nat → Nat) × (Nat → Cd) × Option (Nat × Cd) × Nat × Cd
def qn (q : Rq) : Nat := q.1
def qm (q : Rq) : Nat → List Nat := q.2.1
def qf (q : Rq) : Nat → Nat := q.2.2.1
def qk (q : Rq) : Nat → Cd := q.2.2.2.1
def qb (q : Rq) : Option (Nat × Cd) := q.2.2.2.2.1
def qu (q : Rq) : Nat := q.2.2.2.2.2.1
def qc (q : Rq) : Cd := q.2.2.2.2.2.2
/-- a code that an expression may leave -/
def okc (bar : Bool) (P : Nat) (c : Cd) : Prop := ∃ (T : Nat → Tk) (n i u : Nat) (r : Gr), gS T bar P n 0 0 i u = .ok r ∧ r.2.2 = c
def sgm (C : Cd) (f : Nat) (c : Cd) : Prop := ∃ post pre, C = post ++ (c ++ pre) ∧ pre.length = f
theorem sgm_up {C c d : Cd} {f : Nat} (h : sgm C f c) : sgm (d ++ C) f c := by
  obtain ⟨post, pre, h1, h2⟩ := h
  exact ⟨d ++ post, pre, by rw [h1, List.append_assoc], h2⟩
theorem sgm_new {C c : Cd} : sgm (c ++ C) C.length c := ⟨[], C, rfl, rfl⟩
theorem sgm_le {C c : Cd} {f : Nat} (h : sgm C f c) : f + c.length ≤ C.length := by
  obtain ⟨post, pre, h1, h2⟩ := h
  rw [h1, List.length_append, List.length_append]
  omega
def Vq (P : Nat) (q : Rq) : Prop := qn q ≤ 6 ∧ qu q ≤ 40 ∧ (qc q).length ≤ 9 * qu q ∧ (∀ k, k < qn q → gl (qm q k) ∧ sgm (qc q) (qf q k) (qk q k) ∧ okc false P (qk q k)) ∧ ∀ f c, qb q = some (f, c) → sgm (qc q) f c ∧ okc true P c
def CKg (a : Nat) : Cd → CH → Prop
  | [], _ => True
  | x :: C, h => h.1 a C.length = nI x.1 ∧ h.1 (a + 1) C.length = nI x.2 ∧ CKg a C h
theorem CK_g {h : CH} : ∀ {C : Cd}, CK C h → CKg 67 C h := by
  intro C
  induction C with
  | nil => intro _; trivial
  | cons x C ih => intro c; exact ⟨c.1, c.2.1, ih c.2.2⟩
/-- a rules' object of the class: signs, bar (not the code) -/
def CQ (b : Nat) (q : Rq) (h : CH) : Prop := h.1 b 0 = nI (qn q) ∧ h.1 b 2 = bI (qb q).isSome ∧ (∀ f c, qb q = some (f, c) → h.1 b 3 = nI f ∧ h.1 b 4 = nI (f + c.length)) ∧ ∀ k, k < qn q → h.2 (b + 1) k = nL (w5 (qm q k)) ∧ h.1 (b + 2) k = nI (qf q k) ∧ h.1 (b + 3) k = nI (qf q k + (qk q k).length)
theorem CQ.fz {S L : Nat → Nat → Prop} {b : Nat} {q : Rq} {h h' : CH} (c : CQ b q h) (hF : Fz S L h h') (h0 : ∀ k, k = 0 ∨ k = 2 ∨ k = 3 ∨ k = 4 → ¬ S b k) (h1 : ∀ k, ¬ S (b + 2) k) (h2 : ∀ k, ¬ S (b + 3) k) (h3 : ∀ k, ¬ L (b + 1) k) : CQ b q h' := by
  obtain ⟨c1, c2, c3, c4⟩ := c
  refine ⟨by rw [hF.1 _ _ (h0 _ (by omega))]; exact c1, by rw [hF.1 _ _ (h0 _ (by omega))]; exact c2, fun f c e => ⟨by rw [hF.1 _ _ (h0 _ (by omega))]; exact (c3 f c e).1, by rw [hF.1 _ _ (h0 _ (by omega))]; exact (c3 f c e).2⟩, fun k hk => ⟨by rw [hF.2 _ _ (h3 _)]; exact (c4 k hk).1, by rw [hF.1 _ _ (h1 _)]; exact (c4 k hk).2.1, by rw [hF.1 _ _ (h2 _)]; exact (c4 k hk).2.2⟩⟩
def SL (T : Nat → Tk) (N P i : Nat) (q : Rq) (h : CH) : Prop := CU T N i h ∧ h.1 2 13 = nI 0 ∧ h.1 2 14 = -1 ∧ h.1 194 2 = nI P ∧ h.1 63 1 = nI (qu q) ∧ h.1 63 5 = nI (qc q).length ∧ CK (qc q) h ∧ CQ 63 q h
def hasN (q : Rq) (l : List Nat) : Prop := fnd (fun k => decide (qm q k = l)) (qn q) 0 < qn q
def qBar (q : Rq) (r : Gr) : Rq := (qn q, qm q, qf q, qk q, some ((qc q).length, r.2.2), r.2.1, r.2.2 ++ qc q)
def qSig (q : Rq) (l : List Nat) (r : Gr) : Rq := (qn q + 1, (fun k => if k = qn q then l else qm q k), (fun k => if k = qn q then (qc q).length else qf q k), (fun k => if k = qn q then r.2.2 else qk q k), qb q, r.2.1, r.2.2 ++ qc q)
noncomputable def sRl (T : Nat → Tk) (P i : Nat) (q : Rq) : Ex (Nat × Rq) :=
  if kC (T i) = 10 then (if (qb q).isSome = true then .error (flK T i 2, kS (T i)) else bd (gS T true P 100 0 0 (i + 1) (qu q)) fun r => bd (sTk T r.1 59) fun j => .ok (j, qBar q r))
  else if kC (T i) = 11 then (if 6 ≤ qn q then .error (flK T i 2, kS (T i)) else if kC (T (i + 1)) = 24 then (if fnd (fun k => decide (qm q k = kW (T (i + 1)))) (qn q) 0 < qn q then .error (flK T (i + 1) 3, kS (T (i + 1))) else bd (sTk T (i + 2) 12) fun _ => bd (gS T false P 100 0 0 (i + 3) (qu q)) fun r => bd (sTk T r.1 59) fun j => .ok (j, qSig q (kW (T (i + 1))) r)) else .error (flK T (i + 1) 2, kS (T (i + 1))))
  else .error (flK T i 2, kS (T i))
theorem qBar_V {T : Nat → Tk} {P i : Nat} {q : Rq} {r : Gr} (hV : Vq P q) (h : gS T true P 100 0 0 i (qu q) = .ok r) : Vq P (qBar q r) := by
  obtain ⟨v1, v2, v3, v4, v5⟩ := hV
  have b := gS_B 100 0 0 _ _ r (by omega) h
  have lb := gB_len b v3
  refine ⟨v1, b.2.2.1, ?_, fun k hk => ⟨(v4 k hk).1, sgm_up (v4 k hk).2.1, (v4 k hk).2.2⟩, fun f c e => ?_⟩
  · show (r.2.2 ++ qc q).length ≤ 9 * r.2.1
    omega
  · have e : some ((qc q).length, r.2.2) = some (f, c) := e
    cases e
    exact ⟨sgm_new, T, 100, i, qu q, r, h, rfl⟩
theorem qSig_V {T : Nat → Tk} {P i : Nat} {q : Rq} {r : Gr} {l : List Nat} (hV : Vq P q) (h6 : qn q < 6) (hl : gl l) (h : gS T false P 100 0 0 i (qu q) = .ok r) : Vq P (qSig q l r) := by
  obtain ⟨v1, v2, v3, v4, v5⟩ := hV
  have b := gS_B 100 0 0 _ _ r (by omega) h
  have lb := gB_len b v3
  refine ⟨h6, b.2.2.1, ?_, fun k hk => ?_, fun f c e => ⟨sgm_up (v5 f c e).1, (v5 f c e).2⟩⟩
  · show (r.2.2 ++ qc q).length ≤ 9 * r.2.1
    omega
  · have hk : k < qn q + 1 := hk
    show gl (if k = qn q then l else qm q k) ∧ sgm (r.2.2 ++ qc q) (if k = qn q then (qc q).length else qf q k) (if k = qn q then r.2.2 else qk q k) ∧ okc false P (if k = qn q then r.2.2 else qk q k)
    by_cases e : k = qn q
    · rw [if_pos e, if_pos e, if_pos e]
      exact ⟨hl, sgm_new, T, 100, i, qu q, r, h, rfl⟩
    · rw [if_neg e, if_neg e, if_neg e]
      have := v4 k (by omega)
      exact ⟨this.1, sgm_up this.2.1, this.2.2⟩
def xRl (a k : Nat) : Prop := xE a k ∨ (a = 194 ∧ k = 3) ∨ (a = 63 ∧ k ≤ 5) ∨ a = 65 ∨ a = 66
def lRl (a k : Nat) : Prop := lP a k ∨ a = 64
theorem xE_R : ∀ a k, xE a k → xRl a k := fun _ _ q => Or.inl q
theorem lP_R : ∀ a k, lP a k → lRl a k := fun _ _ q => Or.inl q
theorem xP_R : ∀ a k, xP a k → xRl a k := fun a k q => Or.inl (xP_E a k q)
def QR (T : Nat → Tk) (N P i : Nat) (x : Nat × Rq) (h : CH) : Prop := SL T N P x.1 x.2 h ∧ Vq P x.2 ∧ i + 3 ≤ x.1
theorem SL.st {T : Nat → Tk} {N i j P : Nat} {q : Rq} {h h' : CH} (s : SL T N P i q h) (uj : CU T N j h') (hF : Fz xSt lSt h h') : SL T N P j q h' := by
  obtain ⟨-, s1, s2, s3, s4, s5, s6, s7⟩ := s
  refine ⟨uj, ?_, ?_, ?_, ?_, ?_, s6.fz hF (fun k _ => ⟨by unfold xSt; omega, by unfold xSt; omega⟩), s7.fz hF (fun k hk => by unfold xSt; omega) (fun k => by unfold xSt; omega) (fun k => by unfold xSt; omega) (fun k => by unfold lSt; omega)⟩
  · rw [hF.1 _ _ (by unfold xSt; omega)]; exact s1
  · rw [hF.1 _ _ (by unfold xSt; omega)]; exact s2
  · rw [hF.1 _ _ (by unfold xSt; omega)]; exact s3
  · rw [hF.1 _ _ (by unfold xSt; omega)]; exact s4
  · rw [hF.1 _ _ (by unfold xSt; omega)]; exact s5
/-- the flag that says bar or sign -/
theorem SL.flag {T : Nat → Tk} {N i P : Nat} {q : Rq} {h : CH} {bar : Bool} (s : SL T N P i q h) : Sq T N bar P i (qu q) (qc q) (sI h 194 3 (bI bar)) ∧ CQ 63 q (sI h 194 3 (bI bar)) ∧ Fz xRl lRl h (sI h 194 3 (bI bar)) := by
  obtain ⟨s0, s1, s2, s3, s4, s5, s6, s7⟩ := s
  have g : Fz (fun a k => a = 194 ∧ k = 3) (fun _ _ => False) h (sI h 194 3 (bI bar)) := Fz.sI ⟨rfl, rfl⟩
  refine ⟨⟨s0.fz g (by intro k hk; omega) (by intro c; omega) (by intro c; omega) (by intro c; exact id) id, ?_, ?_, sI_at, ?_, ?_, ?_, s6.fz g (fun k _ => ⟨by omega, by omega⟩)⟩, s7.fz g (fun k hk => by omega) (fun k => by omega) (fun k => by omega) (fun _ => id), g.mono (fun a k q => Or.inr (Or.inl q)) (fun _ _ q => q.elim)⟩
  · rw [g.1 _ _ (by omega)]; exact s1
  · rw [g.1 _ _ (by omega)]; exact s2
  · rw [g.1 _ _ (by omega)]; exact s3
  · rw [g.1 _ _ (by omega)]; exact s4
  · rw [g.1 _ _ (by omega)]; exact s5
theorem c_grpR {T : Nat → Tk} {N n i u P : Nat} {bar : Bool} {C : Cd} {q : Rq} {h0 h : CH} (hT : TG n T N) (hP1 : 1 ≤ P) (hP : P ≤ 8) (s : Sq T N bar P i u C h) (c : CQ 63 q h) (hu : u ≤ 40) (hC : C.length ≤ 9 * u) (hF : Fz xRl lRl h0 h) : CO xRl lRl h0 (f_grp 100 0 (nI 0) h) (gS T bar P 100 0 0 i u) (fun r h' => Sq T N bar P r.1 r.2.1 (r.2.2 ++ C) h' ∧ CQ 63 q h') :=
  (c_grp hT hP1 hP 100 0 0 (by omega) (by omega) (by omega) i u C h h (fun z => by omega) hu hC s Fz.rf).go hF xE_R lP_R (fun r h' p g => ⟨p, c.fz g (fun k hk => by unfold xE; omega) (fun k => by unfold xE; omega) (fun k => by unfold xE; omega) (fun k => by unfold lP; omega)⟩)
theorem c_tkQ {T : Nat → Tk} {N n i u P : Nat} {bar : Bool} {C : Cd} {q : Rq} {h0 h : CH} (hT : TG n T N) (s : Sq T N bar P i u C h) (c : CQ 63 q h) (hF : Fz xRl lRl h0 h) {k : Nat} (hk : k < 26 ∨ 28 ≤ k) (hk2 : k < 100) : CO xRl lRl h0 (f_X8_take (nI k) h) (sTk T i k) (fun j h' => j = i + 1 ∧ Sq T N bar P (i + 1) u C h' ∧ CQ 63 q h') :=
  (c_tkR hT s Fz.rf hk hk2).go hF xE_R lP_R (fun j h' p g => ⟨p.1, p.2, c.fz g (fun k hk => by unfold xE; omega) (fun k => by unfold xE; omega) (fun k => by unfold xE; omega) (fun k => by unfold lP; omega)⟩)
theorem c_erQ {α : Type} {T : Nat → Tk} {N i n : Nat} {h0 h : CH} (hT : TG n T N) (u : CU T N i h) (hF : Fz xRl lRl h0 h) (k : Nat) (P : α → CH → Prop) : CO xRl lRl h0 (cl (f_X8_refuse (nI k) h) fun v h => rz v (v, h)) (.error (flK T i k, kS (T i)) : Ex α) P :=
  ((c_err hT u k P).go hF xP_R lP_R (fun _ _ p _ => p)).last
set_option maxHeartbeats 4000000 in
theorem c_readBar {T : Nat → Tk} {N n i P : Nat} {q : Rq} {h : CH} (hT : TG n T N) (hP1 : 1 ≤ P) (hP : P ≤ 8) (hV : Vq P q) (s : SL T N P i q h) (hc : kC (T i) = 10) : CO xRl lRl h (f_X6_readBar h) (if (qb q).isSome = true then .error (flK T i 2, kS (T i)) else bd (gS T true P 100 0 0 (i + 1) (qu q)) fun r => bd (sTk T r.1 59) fun j => .ok (j, qBar q r)) (QR T N P i) := by
  have v3 := hV.2.2.1
  unfold f_X6_readBar
  rw [s.2.2.2.2.2.2.2.2.1]
  cases hb : (qb q).isSome with
  | true => rw [if_neg (by decide), if_pos rfl]; exact c_erQ hT s.1 Fz.rf 2 _
  | false =>
    rw [if_pos (by decide), if_neg (by decide)]
    refine CO.step hT s.1 (by unfold kLast; omega) Fz.rf xP_R lP_R (fun h2 hi2 u2 g2 hF2 => ?_)
    have s2 := s.st u2 g2
    obtain ⟨s3, c3, f3⟩ := s2.flag (bar := true)
    have hF3 := hF2.tr f3
    rw [show nI 1 = bI true from rfl, wrG_b]
    generalize sI h2 194 3 (bI true) = h3 at *
    unfold f_X5_stepsSoFar_63
    rw [clp_some, s3.2.2.2.2.2.2.1]
    refine CO.bie (c_grpR hT hP1 hP s3 c3 hV.2.1 v3 hF3) (fun r h4 er p hF4 => ?_)
    obtain ⟨s4, c4⟩ := p
    refine CO.bie (c_tkQ hT s4 c4 hF4 (by omega) (by omega)) (fun j h5 ej p hF5 => ?_)
    obtain ⟨rfl, s5, c5⟩ := p
    have e : f_X5_addBar_63 (nI (qc q).length) h5 = some ((), sI (sI (sI h5 63 2 (nI 1)) 63 3 (nI (qc q).length)) 63 4 (nI (r.2.2 ++ qc q).length)) := by
      unfold f_X5_addBar_63
      rw [wrG_1, wrF_eq, wrF_eq, sI_ne (by omega), sI_ne (by omega), s5.2.2.2.2.2.2.1]
    rw [e, cl_some]
    have g : Fz (fun a k => a = 63 ∧ 2 ≤ k ∧ k ≤ 4) (fun _ _ => False) h5 (sI (sI (sI h5 63 2 (nI 1)) 63 3 (nI (qc q).length)) 63 4 (nI (r.2.2 ++ qc q).length)) := ((Fz.sI (by omega)).tr (Fz.sI (by omega))).tr (Fz.sI (by omega))
    have br := gS_B 100 0 0 _ _ r (by omega) er
    obtain ⟨z0, z1, z2, z3, z4, z5, z6, z7⟩ := s5
    obtain ⟨w0, w1, w2, w3⟩ := c5
    refine ⟨_, rfl, ⟨⟨z0.fz g (by intro k hk; omega) (by intro c; omega) (by intro c; omega) (by intro c; exact id) id, ?_, ?_, ?_, ?_, ?_, z7.fz g (fun k _ => ⟨by omega, by omega⟩), ?_, ?_, fun f c ef => ?_, fun k hk => ?_⟩, qBar_V hV er, by show i + 3 ≤ r.1 + 1; have := br.1; omega⟩, hF5.tr (g.mono (fun a k q => Or.inr (Or.inr (Or.inl (by omega)))) (fun _ _ q => q.elim))⟩
    · rw [g.1 _ _ (by omega)]; exact z1
    · rw [g.1 _ _ (by omega)]; exact z2
    · rw [g.1 _ _ (by omega)]; exact z4
    · rw [g.1 _ _ (by omega)]; exact z5
    · rw [g.1 _ _ (by omega)]; exact z6
    · rw [g.1 _ _ (by omega)]; exact w0
    · rw [sI_ne (by omega), sI_ne (by omega), sI_at]; rfl
    · have ef : some ((qc q).length, r.2.2) = some (f, c) := ef
      cases ef
      refine ⟨by rw [sI_ne (by omega), sI_at], ?_⟩
      rw [sI_at, List.length_append, Nat.add_comm]
    · have w3 := w3 k hk
      exact ⟨w3.1, by rw [g.1 _ _ (by omega)]; exact w3.2.1, by rw [g.1 _ _ (by omega)]; exact w3.2.2⟩
theorem c_hasL {q : Rq} {h : CH} {P : Nat} (c : CQ 63 q h) (hV : Vq P q) {l : List Nat} (hl : gl l) : ∀ m i g, i + m = qn q → m < g → f_X5_hasSign_63_L2 (nL (w5 l)) h g (nI i) = some (bI (decide (fnd (fun k => decide (qm q k = l)) m i < qn q))) := by
  have h6 := hV.1
  intro m
  induction m with
  | zero =>
    intro i f hi hf
    obtain ⟨g, rfl⟩ : ∃ g, f = g + 1 := ⟨f - 1, by omega⟩
    unfold f_X5_hasSign_63_L2
    rw [c.1, if_neg (by rw [uI_lt (by omega) (by omega)]; omega), decide_eq_false (by show ¬ i < qn q; omega)]
    rfl
  | succ m ih =>
    intro i f hi hf
    obtain ⟨g, rfl⟩ : ∃ g, f = g + 1 := ⟨f - 1, by omega⟩
    unfold f_X5_hasSign_63_L2
    rw [c.1, if_pos (by rw [uI_lt (by omega) (by omega)]; omega), if_pos (by rw [uI_lt (by omega) (by omega)]; omega), rdL_nI (by omega) (by omega), (c.2.2.2 i (by omega)).1]
    have e := lg5 (hV.2.2.2.1 i (by omega)).1 hl
    unfold fnd
    by_cases z : qm q i = l
    · rw [if_pos (e.mpr z), if_pos (decide_eq_true z), decide_eq_true (by omega)]
      rfl
    · rw [if_neg (fun y => z (e.mp y)), if_neg (show ¬ ((decide (qm q i = l)) = true) from by simp [z]), uI_add]
      exact ih (i + 1) g (by omega) (by omega)
set_option maxHeartbeats 4000000 in
theorem c_readSign {T : Nat → Tk} {N n i P : Nat} {q : Rq} {h : CH} (hT : TG n T N) (hP1 : 1 ≤ P) (hP : P ≤ 8) (hV : Vq P q) (s : SL T N P i q h) (hc : kC (T i) = 11) : CO xRl lRl h (f_X6_readSign h) (if 6 ≤ qn q then .error (flK T i 2, kS (T i)) else if kC (T (i + 1)) = 24 then (if fnd (fun k => decide (qm q k = kW (T (i + 1)))) (qn q) 0 < qn q then .error (flK T (i + 1) 3, kS (T (i + 1))) else bd (sTk T (i + 2) 12) fun _ => bd (gS T false P 100 0 0 (i + 3) (qu q)) fun r => bd (sTk T r.1 59) fun j => .ok (j, qSig q (kW (T (i + 1))) r)) else .error (flK T (i + 1) 2, kS (T (i + 1)))) (QR T N P i) := by
  have v3 := hV.2.2.1
  have h6 := hV.1
  unfold f_X6_readSign
  have x : (nI (qn q) < nI 6) = (qn q < 6) := uI_lt (by omega) (by omega)
  rw [s.2.2.2.2.2.2.2.1]
  simp only [x]
  by_cases c6 : qn q < 6
  · rw [if_pos c6, if_neg (by omega)]
    refine CO.step hT s.1 (by unfold kLast; omega) Fz.rf xP_R lP_R (fun h1 hi1 u1 g1 hF1 => ?_)
    have s1 := s.st u1 g1
    have hc1 := kC_lt hT u1.2.1
    have y : (nI (kC (T (i + 1))) = nI 24) = (kC (T (i + 1)) = 24) := uI_inj (by omega) (by omega)
    rw [u1.2.2.2.1]
    simp only [y]
    by_cases c1 : kC (T (i + 1)) = 24
    · have gg := (hT.2.2.2.2 (i + 1) u1.2.1).2.2.2 (by omega)
      rw [if_pos c1, if_pos c1, u1.2.2.2.2.2 (by omega)]
      have eh : f_X5_hasSign_63 (nL (w5 (kW (T (i + 1))))) h1 = some (bI (decide (fnd (fun k => decide (qm q k = kW (T (i + 1)))) (qn q) 0 < qn q))) := by
        unfold f_X5_hasSign_63
        exact c_hasL s1.2.2.2.2.2.2.2 hV gg.1 (qn q) 0 FU (by omega) (by show _ < 100000; omega)
      rw [eh, clp_some]
      by_cases c2 : fnd (fun k => decide (qm q k = kW (T (i + 1)))) (qn q) 0 < qn q
      · rw [if_pos c2, decide_eq_true c2, if_neg (by decide)]
        exact c_erQ hT u1 hF1 3 _
      · rw [if_neg c2, decide_eq_false c2, if_pos (by decide)]
        refine CO.step hT u1 (by unfold kLast; omega) hF1 xP_R lP_R (fun h2 hi2 u2 g2 hF2 => ?_)
        have s2 : SL T N P (i + 2) q h2 := s1.st u2 g2
        obtain ⟨s3, c3, f3⟩ := s2.flag (bar := false)
        have hF3 := hF2.tr f3
        have ef : ∀ (K : CH → Option (Int32 × CH)), wrG h2 194 3 (nI 0) K = K (sI h2 194 3 (bI false)) := fun K => wrG_0
        rw [ef]
        generalize sI h2 194 3 (bI false) = h3 at *
        unfold f_X5_stepsSoFar_63
        rw [clp_some, s3.2.2.2.2.2.2.1]
        refine CO.bie (c_tkQ hT s3 c3 hF3 (by omega) (by omega)) (fun j h3' ej p hF3' => ?_)
        obtain ⟨-, s3', c3'⟩ := p
        refine CO.bie (c_grpR hT hP1 hP s3' c3' hV.2.1 v3 hF3') (fun r h4 er p hF4 => ?_)
        obtain ⟨s4, c4⟩ := p
        refine CO.bie (c_tkQ hT s4 c4 hF4 (by omega) (by omega)) (fun j h5 ej p hF5 => ?_)
        obtain ⟨rfl, s5, c5⟩ := p
        obtain ⟨z0, z1, z2, z3, z4, z5, z6, z7⟩ := s5
        obtain ⟨w0, w1, w2, w3⟩ := c5
        have e : f_X5_addSign_63 (nL (w5 (kW (T (i + 1))))) (nI (qc q).length) h5 = some ((), sI (sI (sI (sL h5 64 (qn q) (nL (w5 (kW (T (i + 1)))))) 65 (qn q) (nI (qc q).length)) 66 (qn q) (nI (r.2.2 ++ qc q).length)) 63 0 (nI (qn q + 1))) := by
          unfold f_X5_addSign_63
          rw [w0, if_pos (by rw [uI_lt (by omega) (by omega)]; exact c6), wrL_nI (by omega) (by omega), sL_1, w0, wrA_nI (by omega) (by omega), sI_ne (by omega), sL_1, w0, sI_ne (by omega), sL_1, z6, wrA_nI (by omega) (by omega), wrF_eq, sI_ne (by omega), sI_ne (by omega), sL_1, w0, uI_add]
        rw [e, cl_some]
        have g : Fz (fun a k => (a = 63 ∧ k = 0) ∨ ((a = 65 ∨ a = 66) ∧ k = qn q)) (fun a k => a = 64 ∧ k = qn q) h5 (sI (sI (sI (sL h5 64 (qn q) (nL (w5 (kW (T (i + 1)))))) 65 (qn q) (nI (qc q).length)) 66 (qn q) (nI (r.2.2 ++ qc q).length)) 63 0 (nI (qn q + 1))) := (((Fz.sL ⟨rfl, rfl⟩).tr (Fz.sI (by omega))).tr (Fz.sI (by omega))).tr (Fz.sI (by omega))
        have br := gS_B 100 0 0 _ _ r (by omega) er
        refine ⟨_, rfl, ⟨⟨z0.fz g (by intro k hk; omega) (by intro c; omega) (by intro c; omega) (by intro c; omega) (by omega), ?_, ?_, ?_, ?_, ?_, z7.fz g (fun k _ => ⟨by omega, by omega⟩), ?_, ?_, fun f c ef => ?_, fun k hk => ?_⟩, qSig_V hV c6 gg.1 er, by show i + 3 ≤ r.1 + 1; have := br.1; omega⟩, hF5.tr (g.mono (fun a k q => by
            rcases q with q | q
            · exact Or.inr (Or.inr (Or.inl ⟨q.1, by omega⟩))
            · exact Or.inr (Or.inr (Or.inr (by omega)))) (fun a k q => Or.inr q.1))⟩
        · rw [g.1 _ _ (by omega)]; exact z1
        · rw [g.1 _ _ (by omega)]; exact z2
        · rw [g.1 _ _ (by omega)]; exact z4
        · rw [g.1 _ _ (by omega)]; exact z5
        · rw [g.1 _ _ (by omega)]; exact z6
        · rw [sI_at]; rfl
        · rw [g.1 _ _ (by omega)]; exact w1
        · have := w2 f c ef
          exact ⟨by rw [g.1 _ _ (by omega)]; exact this.1, by rw [g.1 _ _ (by omega)]; exact this.2⟩
        · have hk : k < qn q + 1 := hk
          show _ = nL (w5 (if k = qn q then kW (T (i + 1)) else qm q k)) ∧ _ = nI (if k = qn q then (qc q).length else qf q k) ∧ _ = nI ((if k = qn q then (qc q).length else qf q k) + (if k = qn q then r.2.2 else qk q k).length)
          by_cases e : k = qn q
          · rw [if_pos e, if_pos e, if_pos e, e]
            refine ⟨by rw [sI_2, sI_2, sI_2, sL_2, if_pos ⟨rfl, rfl⟩], by rw [sI_ne (by omega), sI_ne (by omega), sI_at], ?_⟩
            rw [sI_ne (by omega), sI_at, List.length_append, Nat.add_comm]
          · rw [if_neg e, if_neg e, if_neg e]
            have w3 := w3 k (by omega)
            exact ⟨by rw [g.2 _ _ (by omega)]; exact w3.1, by rw [g.1 _ _ (by omega)]; exact w3.2.1, by rw [g.1 _ _ (by omega)]; exact w3.2.2⟩
    · rw [if_neg c1, if_neg c1]
      exact c_erQ hT u1 hF1 2 _
  · rw [if_neg c6, if_pos (by omega)]
    exact c_erQ hT s.1 Fz.rf 2 _
