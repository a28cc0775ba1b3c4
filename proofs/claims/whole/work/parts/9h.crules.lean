/-! the class reads a whole text of rules -/
theorem c_ruleL {T : Nat → Tk} {N n i P : Nat} {q : Rq} {h : CH} (hT : TG n T N) (hP1 : 1 ≤ P) (hP : P ≤ 8) (hV : Vq P q) (s : SL T N P i q h) : CO xRl lRl h (f_X6_readLine h) (sRl T P i q) (QR T N P i) := by
  have hc := kC_lt hT s.1.2.1
  have y : ∀ k, k < 100 → (nI (kC (T i)) = nI k) = (kC (T i) = k) := fun k hk => uI_inj (by omega) (by omega)
  unfold f_X6_readLine sRl
  rw [s.1.2.2.2.1]
  simp only [y 10 (by omega), y 11 (by omega)]
  by_cases c0 : kC (T i) = 10
  · rw [if_pos c0, if_pos c0]; exact (c_readBar hT hP1 hP hV s c0).last
  rw [if_neg c0, if_neg c0]
  by_cases c1 : kC (T i) = 11
  · rw [if_pos c1, if_pos c1]; exact (c_readSign hT hP1 hP hV s c1).last
  rw [if_neg c1, if_neg c1]
  exact c_erQ hT s.1 Fz.rf 2 _
noncomputable def sRs (T : Nat → Tk) (P : Nat) : Nat → Nat → Rq → Ex Rq
  | 0, _, q => .ok q
  | k + 1, i, q => if kC (T i) = 26 then .ok q else bd (sRl T P i q) fun x => sRs T P k x.1 x.2
theorem c_rsLp {T : Nat → Tk} {N n P : Nat} {h0 : CH} (hT : TG n T N) (hP1 : 1 ≤ P) (hP : P ≤ 8) : ∀ k i q g x h, 3 * x ≤ i → N < i + k → k < g → SL T N P i q h → Vq P q → Fz xRl lRl h0 h → CO xRl lRl h0 (f_X6_read_L9 g (nI x) h) (sRs T P k i q) (fun q' h' => (∃ j, SL T N P j q' h') ∧ Vq P q') := by
  have hn := hT.1
  have hN := hT.2.2.1
  intro k
  induction k with
  | zero => intro i q g x h _ h2 _ s; have := s.1.2.1; omega
  | succ k ih =>
    intro i q g x h h1 h2 h3 s hV hF
    obtain ⟨g, rfl⟩ : ∃ y, g = y + 1 := ⟨g - 1, by omega⟩
    have hi := s.1.2.1
    have hc := kC_lt hT hi
    have y : (nI (kC (T i)) = nI 26) = (kC (T i) = 26) := uI_inj (by omega) (by omega)
    unfold f_X6_read_L9 sRs
    rw [if_pos (by rw [uI_lt (by omega) (by omega)]; omega), s.1.2.2.2.1]
    simp only [y]
    by_cases c : kC (T i) = 26
    · rw [if_pos c, if_pos c]
      exact ⟨h, rfl, ⟨⟨i, s⟩, hV⟩, hF⟩
    · rw [if_neg c, if_neg c]
      refine CO.bi ((c_ruleL hT hP1 hP hV s).go hF (fun _ _ q => q) (fun _ _ q => q) (fun a h' p _ => p)) (fun q h4 p hF4 => ?_)
      obtain ⟨p1, p2, p3⟩ := p
      rw [uI_add]
      exact ih q.1 q.2 g (x + 1) h4 (by omega) (by omega) (by omega) p1 p2 hF4
def q0 : Rq := (0, fun _ => [], fun _ => 0, fun _ => [], none, 0, [])
theorem q0_V (P : Nat) : Vq P q0 := ⟨by decide, by decide, by decide, fun k hk => absurd hk (Nat.not_lt_zero k), fun f c e => by cases e⟩
theorem c_readR {T : Nat → Tk} {N n P : Nat} {h : CH} (hT : TG n T N) (hP1 : 1 ≤ P) (hP : P ≤ 8) (u : CU T N 0 h) (h2 : h.1 194 2 = nI P) (h13 : h.1 2 13 = nI 0) (h14 : h.1 2 14 = -1) : CO xRl lRl h (f_X6_read h) (sRs T P (N + 1) 0 q0) (fun q' h' => (∃ j, SL T N P j q' h') ∧ Vq P q') := by
  have hn := hT.1
  have hN := hT.2.2.1
  have e : f_X5_clear_63 h = some ((), sI (sI (sI (sI h 63 0 (nI 0)) 63 1 (nI 0)) 63 5 (nI 0)) 63 2 (nI 0)) := by
    unfold f_X5_clear_63
    rw [wrF_eq, wrF_eq, wrF_eq, wrG_0]
  unfold f_X6_read
  rw [e, cl_some]
  have g : Fz (fun a k => a = 63 ∧ k ≤ 5) (fun _ _ => False) h (sI (sI (sI (sI h 63 0 (nI 0)) 63 1 (nI 0)) 63 5 (nI 0)) 63 2 (nI 0)) := (((Fz.sI (by omega)).tr (Fz.sI (by omega))).tr (Fz.sI (by omega))).tr (Fz.sI (by omega))
  refine c_rsLp hT hP1 hP (N + 1) 0 q0 FU 0 _ (by omega) (by omega) (by show _ < 100000; omega) ⟨u.fz g (by intro k hk; omega) (by intro c; omega) (by intro c; omega) (by intro c; exact id) id, ?_, ?_, ?_, ?_, ?_, trivial, ?_, ?_, fun f c e => (by cases e), fun k hk => absurd hk (Nat.not_lt_zero k)⟩ (q0_V P) (g.mono (fun a k q => Or.inr (Or.inr (Or.inl q))) (fun _ _ q => q.elim))
  · rw [g.1 _ _ (by omega)]; exact h13
  · rw [g.1 _ _ (by omega)]; exact h14
  · rw [g.1 _ _ (by omega)]; exact h2
  · rw [sI_ne (by omega), sI_ne (by omega), sI_at]; rfl
  · rw [sI_ne (by omega), sI_at]; rfl
  · rw [sI_ne (by omega), sI_ne (by omega), sI_ne (by omega), sI_at]; rfl
  · rw [sI_at]; rfl
/-- the rules' own object, from the draft's -/
theorem c_rcp2 {m : Nat} (hm : m < 800) {h0 : CH} : ∀ g j h, j ≤ m → m - j < g → h.1 55 5 = nI m → (∀ k, k < j → h.1 59 k = h0.1 67 k ∧ h.1 60 k = h0.1 68 k) → (∀ k, h.1 67 k = h0.1 67 k ∧ h.1 68 k = h0.1 68 k) → ∃ h', f_X5_copyFrom_55_63_L100 g (nI j) h = some ((), h') ∧ (∀ k, k < m → h'.1 59 k = h0.1 67 k ∧ h'.1 60 k = h0.1 68 k) ∧ Fr (fun a _ => a = 59 ∨ a = 60) h h' := by
  intro g
  induction g with
  | zero => intro j h _ h2; omega
  | succ g ih =>
    intro j h h1 h2 h3 h4 h5
    unfold f_X5_copyFrom_55_63_L100
    rw [h3]
    by_cases c : j < m
    · rw [if_pos (by rw [uI_lt (by omega) (by omega)]; exact c), if_pos (by rw [uI_lt (by omega) (by omega)]; omega), rdA_nI (by omega) (by omega), wrA_nI (by omega) (by omega), rdA_nI (by omega) (by omega), wrA_nI (by omega) (by omega), uI_add, sI_ne (by omega), (h5 j).1, (h5 j).2]
      obtain ⟨h', g1, g2, g3⟩ := ih (j + 1) (sI (sI h 59 j (h0.1 67 j)) 60 j (h0.1 68 j)) (by omega) (by omega) (by rw [sI_ne (by omega), sI_ne (by omega)]; exact h3) (fun k hk => by
        by_cases e : k = j
        · rw [e, sI_ne (by omega), sI_at, sI_at]; exact ⟨rfl, rfl⟩
        · rw [sI_ne (by omega), sI_ne (by omega), sI_ne (by omega), sI_ne (by omega)]; exact h4 k (by omega)) (fun k => by rw [sI_ne (by omega), sI_ne (by omega), sI_ne (by omega), sI_ne (by omega)]; exact h5 k)
      exact ⟨h', g1, g2, ((Fr.sI (by omega)).tr (Fr.sI (by omega))).tr g3⟩
    · rw [if_neg (by rw [uI_lt (by omega) (by omega)]; exact c)]
      exact ⟨h, rfl, fun k hk => h4 k (by omega), Fr.rf⟩
theorem c_rcp1 {m : Nat} (hm : m < 800) {h0 : CH} : ∀ g j h, j ≤ 6 → 6 - j < g → h.1 55 5 = nI m → (∀ k, k < j → h.2 56 k = h0.2 64 k ∧ h.1 57 k = h0.1 65 k ∧ h.1 58 k = h0.1 66 k) → (∀ k, h.2 64 k = h0.2 64 k ∧ h.1 65 k = h0.1 65 k ∧ h.1 66 k = h0.1 66 k ∧ h.1 67 k = h0.1 67 k ∧ h.1 68 k = h0.1 68 k) → ∃ h', f_X5_copyFrom_55_63_L50 g (nI j) h = some ((), h') ∧ (∀ k, k < 6 → h'.2 56 k = h0.2 64 k ∧ h'.1 57 k = h0.1 65 k ∧ h'.1 58 k = h0.1 66 k) ∧ (∀ k, k < m → h'.1 59 k = h0.1 67 k ∧ h'.1 60 k = h0.1 68 k) ∧ Fz (fun a _ => 57 ≤ a ∧ a ≤ 60) (fun a _ => a = 56) h h' := by
  intro g
  induction g with
  | zero => intro j h _ h2; omega
  | succ g ih =>
    intro j h h1 h2 h3 h4 h5
    unfold f_X5_copyFrom_55_63_L50
    by_cases c : j < 6
    · have e1 : (sL h 56 j (h.2 64 j)).1 65 j = h0.1 65 j := (h5 j).2.1
      have e2 : (sI (sL h 56 j (h.2 64 j)) 57 j (h0.1 65 j)).1 66 j = h0.1 66 j := by rw [sI_ne (by omega)]; exact (h5 j).2.2.1
      rw [if_pos (by rw [uI_lt (by omega) (by omega)]; exact c), rdL_nI (by omega) (by omega), wrL_nI (by omega) (by omega), rdA_nI (by omega) (by omega), wrA_nI (by omega) (by omega), rdA_nI (by omega) (by omega), wrA_nI (by omega) (by omega), uI_add, e1, e2]
      have g1 : Fz (fun a k => (a = 57 ∨ a = 58) ∧ k = j) (fun a k => a = 56 ∧ k = j) h (sI (sI (sL h 56 j (h.2 64 j)) 57 j (h0.1 65 j)) 58 j (h0.1 66 j)) := ((Fz.sL ⟨rfl, rfl⟩).tr (Fz.sI (by omega))).tr (Fz.sI (by omega))
      obtain ⟨h', k1, k2, k3, k4⟩ := ih (j + 1) (sI (sI (sL h 56 j (h.2 64 j)) 57 j (h0.1 65 j)) 58 j (h0.1 66 j)) (by omega) (by omega) (by rw [g1.1 _ _ (by omega)]; exact h3) (fun k hk => by
        by_cases e : k = j
        · rw [e]
          exact ⟨by rw [sI_2, sI_2, sL_2, if_pos ⟨rfl, rfl⟩]; exact (h5 j).1, by rw [sI_ne (by omega), sI_at], sI_at⟩
        · have := h4 k (by omega)
          exact ⟨by rw [g1.2 _ _ (by omega)]; exact this.1, by rw [g1.1 _ _ (by omega)]; exact this.2.1, by rw [g1.1 _ _ (by omega)]; exact this.2.2⟩) (fun k => by
        have := h5 k
        exact ⟨by rw [g1.2 _ _ (by omega)]; exact this.1, by rw [g1.1 _ _ (by omega)]; exact this.2.1, by rw [g1.1 _ _ (by omega)]; exact this.2.2.1, by rw [g1.1 _ _ (by omega)]; exact this.2.2.2.1, by rw [g1.1 _ _ (by omega)]; exact this.2.2.2.2⟩)
      exact ⟨h', k1, k2, k3, (g1.mono (fun a k q => by omega) (fun a k q => q.1)).tr k4⟩
    · rw [if_neg (by rw [uI_lt (by omega) (by omega)]; exact c)]
      obtain ⟨h', k1, k2, k3⟩ := c_rcp2 hm (h0 := h0) FU 0 h (by omega) (by show _ < 100000; omega) h3 (fun k hk => by omega) (fun k => ⟨(h5 k).2.2.2.1, (h5 k).2.2.2.2⟩)
      refine ⟨h', k1, fun k hk => ?_, k2, (Fz.fr k3).mono (fun a k q => by omega) (fun _ _ q => q)⟩
      have := h4 k (by omega)
      exact ⟨by rw [k3.2]; exact this.1, by rw [k3.1 _ _ (by omega)]; exact this.2.1, by rw [k3.1 _ _ (by omega)]; exact this.2.2⟩
theorem CKg_cp {a b : Nat} {h h' : CH} : ∀ {C : Cd}, CKg a C h → (∀ k, k < C.length → h'.1 b k = h.1 a k ∧ h'.1 (b + 1) k = h.1 (a + 1) k) → CKg b C h' := by
  intro C
  induction C with
  | nil => intro _ _; trivial
  | cons x C ih =>
    intro c hs
    have := hs C.length (by rw [List.length_cons]; omega)
    exact ⟨this.1.trans c.1, this.2.trans c.2.1, ih c.2.2 (fun k hk => hs k (by rw [List.length_cons]; omega))⟩
/-- rules as the class holds them -/
def RC (P : Nat) (q : Rq) (h : CH) : Prop := Vq P q ∧ CQ 55 q h ∧ h.1 55 1 = nI (qu q) ∧ CKg 59 (qc q) h
set_option maxHeartbeats 4000000 in
theorem c_copyR {T : Nat → Tk} {N P j : Nat} {q : Rq} {h : CH} (s : SL T N P j q h) (hV : Vq P q) : ∃ h', f_X5_copyFrom_55_63 h = some ((), h') ∧ RC P q h' ∧ Fz (fun a k => (a = 55 ∧ k ≤ 5) ∨ (57 ≤ a ∧ a ≤ 60)) (fun a _ => a = 56) h h' := by
  obtain ⟨-, -, -, -, s1, s5, s6, c0, c2, c3, c4⟩ := s
  have hl : (qc q).length < 800 := by have := hV.2.1; have := hV.2.2.1; omega
  unfold f_X5_copyFrom_55_63
  rw [wrF_eq, wrF_eq, wrF_eq, sI_ne (by omega), sI_ne (by omega), sI_ne (by omega), sI_ne (by omega), sI_ne (by omega), sI_ne (by omega), c2, wrG_b, wrF_eq, wrF_eq, sI_ne (by omega), sI_ne (by omega), sI_ne (by omega), sI_ne (by omega), sI_ne (by omega), sI_ne (by omega), sI_ne (by omega), sI_ne (by omega), sI_ne (by omega), c0, s1, s5]
  have g : Fz (fun a k => a = 55 ∧ k ≤ 5) (fun _ _ => False) h (sI (sI (sI (sI (sI (sI h 55 0 (nI (qn q))) 55 1 (nI (qu q))) 55 5 (nI (qc q).length)) 55 2 (bI (qb q).isSome)) 55 3 (h.1 63 3)) 55 4 (h.1 63 4)) := (((((Fz.sI (by omega)).tr (Fz.sI (by omega))).tr (Fz.sI (by omega))).tr (Fz.sI (by omega))).tr (Fz.sI (by omega))).tr (Fz.sI (by omega))
  have e0 : (sI (sI (sI (sI (sI (sI h 55 0 (nI (qn q))) 55 1 (nI (qu q))) 55 5 (nI (qc q).length)) 55 2 (bI (qb q).isSome)) 55 3 (h.1 63 3)) 55 4 (h.1 63 4)).1 55 0 = nI (qn q) := by rw [sI_ne (by omega), sI_ne (by omega), sI_ne (by omega), sI_ne (by omega), sI_ne (by omega), sI_at]
  have e1 : (sI (sI (sI (sI (sI (sI h 55 0 (nI (qn q))) 55 1 (nI (qu q))) 55 5 (nI (qc q).length)) 55 2 (bI (qb q).isSome)) 55 3 (h.1 63 3)) 55 4 (h.1 63 4)).1 55 1 = nI (qu q) := by rw [sI_ne (by omega), sI_ne (by omega), sI_ne (by omega), sI_ne (by omega), sI_at]
  have e5 : (sI (sI (sI (sI (sI (sI h 55 0 (nI (qn q))) 55 1 (nI (qu q))) 55 5 (nI (qc q).length)) 55 2 (bI (qb q).isSome)) 55 3 (h.1 63 3)) 55 4 (h.1 63 4)).1 55 5 = nI (qc q).length := by rw [sI_ne (by omega), sI_ne (by omega), sI_ne (by omega), sI_at]
  have e2 : (sI (sI (sI (sI (sI (sI h 55 0 (nI (qn q))) 55 1 (nI (qu q))) 55 5 (nI (qc q).length)) 55 2 (bI (qb q).isSome)) 55 3 (h.1 63 3)) 55 4 (h.1 63 4)).1 55 2 = bI (qb q).isSome := by rw [sI_ne (by omega), sI_ne (by omega), sI_at]
  have e3 : (sI (sI (sI (sI (sI (sI h 55 0 (nI (qn q))) 55 1 (nI (qu q))) 55 5 (nI (qc q).length)) 55 2 (bI (qb q).isSome)) 55 3 (h.1 63 3)) 55 4 (h.1 63 4)).1 55 3 = h.1 63 3 := by rw [sI_ne (by omega), sI_at]
  have e4 : (sI (sI (sI (sI (sI (sI h 55 0 (nI (qn q))) 55 1 (nI (qu q))) 55 5 (nI (qc q).length)) 55 2 (bI (qb q).isSome)) 55 3 (h.1 63 3)) 55 4 (h.1 63 4)).1 55 4 = h.1 63 4 := sI_at
  generalize sI (sI (sI (sI (sI (sI h 55 0 (nI (qn q))) 55 1 (nI (qu q))) 55 5 (nI (qc q).length)) 55 2 (bI (qb q).isSome)) 55 3 (h.1 63 3)) 55 4 (h.1 63 4) = h1 at *
  obtain ⟨h', k1, k2, k3, k4⟩ := c_rcp1 hl (h0 := h) FU 0 h1 (by omega) (by show _ < 100000; omega) e5 (fun k hk => by omega) (fun k => ⟨g.2 _ _ id, g.1 _ _ (by omega), g.1 _ _ (by omega), g.1 _ _ (by omega), g.1 _ _ (by omega)⟩)
  refine ⟨h', k1, ⟨hV, ⟨?_, ?_, fun f c ef => ⟨?_, ?_⟩, fun k hk => ?_⟩, ?_, CKg_cp (CK_g s6) (fun k hk => k3 k hk)⟩, (g.mono (fun a k q => Or.inl q) (fun _ _ q => q.elim)).tr (k4.mono (fun a k q => Or.inr q) (fun _ _ q => q))⟩
  · rw [k4.1 _ _ (by omega)]; exact e0
  · rw [k4.1 _ _ (by omega)]; exact e2
  · rw [k4.1 _ _ (by omega), e3]; exact (c3 f c ef).1
  · rw [k4.1 _ _ (by omega), e4]; exact (c3 f c ef).2
  · have h6 := hV.1
    have := k2 k (by omega)
    exact ⟨this.1.trans (c4 k hk).1, this.2.1.trans (c4 k hk).2.1, this.2.2.trans (c4 k hk).2.2⟩
  · rw [k4.1 _ _ (by omega)]; exact e1
def new194 (v : Int32) (h : CH) : CH := sI (sI h 194 2 v) 194 3 (nI 0)
def f_X11_rules (h : CH) : Option (Int32 × CH) := (if nI 800 < h.1 0 1 then some ((-2 : Int32), h) else cl (f_X8_open (h.1 0 1) (nI 1) h) fun _ h_1 => cl (f_X6_read (new194 (h_1.1 7 0) h_1)) fun v_2 h_3 => cl (f_X11_keepFault h_3) fun _ h_4 => wrF h_4 0 1 (nI 0) fun h_5 => (if v_2 = 0 then some (-1, h_5) else cl (f_X5_copyFrom_55_63 h_5) fun _ h_6 => clp (f_X5_lines_55 h_6) fun v_7 => some (v_7, h_6)))
def xRw (a k : Nat) : Prop := (a = 2 ∧ 5 ≤ k ∧ k ≤ 14) ∨ a = 4 ∨ a = 5 ∨ (63 ≤ a ∧ a ≤ 68) ∨ (a = 194 ∧ 2 ≤ k ∧ k ≤ 3) ∨ (a = 0 ∧ 1 ≤ k ∧ k ≤ 3)
def lRw (a k : Nat) : Prop := (a = 2 ∧ k = 12) ∨ a = 6 ∨ a = 64
def xRo (a k : Nat) : Prop := xRw a k ∨ (a = 55 ∧ k ≤ 5) ∨ (57 ≤ a ∧ a ≤ 60)
def lRo (a k : Nat) : Prop := lRw a k ∨ a = 56
def qLn (q : Rq) : Nat := qn q + (if (qb q).isSome = true then 1 else 0)
theorem xRl_w : ∀ a k, xRl a k → xRw a k := fun a k q => by
  unfold xRw
  rcases q with q | q | q | q | q
  · unfold xE at q; omega
  · omega
  · omega
  · omega
  · omega
theorem lRl_w : ∀ a k, lRl a k → lRw a k := fun a k q => by
  unfold lRw
  rcases q with q | q
  · unfold lP at q; omega
  · omega
set_option maxHeartbeats 4000000 in
theorem c_rules {n P : Nat} {X : Nat → Nat} {N : Nat} {h : CH} (hP1 : 1 ≤ P) (hP : P ≤ 8) (h7 : h.1 7 0 = nI P) (h8 : n ≤ 800) (hB : TXN true n X N) (h1 : h.1 0 1 = nI n) (hx : ∀ j, j < n → (h.1 1 j &&& nI 255) = nI (X j)) (hr : ∀ r, r < 24 → h.2 3 r = nL (w5 (lw r))) : match sRs (tks true n X) P (N + 1) 0 q0 with
    | .error e => ∃ h', f_X11_rules h = some (-1, h') ∧ h'.1 0 1 = nI 0 ∧ h'.1 0 2 = nI e.1 ∧ h'.1 0 3 = nI e.2 ∧ Fz xRw lRw h h'
    | .ok q => ∃ h', f_X11_rules h = some (nI (qLn q), h') ∧ h'.1 0 1 = nI 0 ∧ h'.1 0 2 = nI 0 ∧ h'.1 0 3 = -1 ∧ RC P q h' ∧ Fz xRo lRo h h' := by
  obtain ⟨hX, hT, hp⟩ := hB
  unfold f_X11_rules
  obtain ⟨h2, a1, a2, a3, a4, a5⟩ := c_openT (rl := true) hX hT hp hx hr
  rw [h1, if_neg (by rw [uI_lt (by omega) (by omega)]; omega), show nI 1 = bI true from rfl, a1, cl_some, show h2.1 7 0 = nI P from by rw [a5.1 _ _ (by unfold xOp; omega)]; exact h7]
  have f3 : Fz (fun a k => a = 194 ∧ 2 ≤ k ∧ k ≤ 3) (fun _ _ => False) h2 (new194 (nI P) h2) := (Fz.sI (by omega)).tr (Fz.sI (by omega))
  have u3 := a2.fz f3 (by intro k hk; omega) (by intro c; omega) (by intro c; omega) (by intro c; exact id) id
  have z2 : (new194 (nI P) h2).1 194 2 = nI P := by unfold new194; rw [sI_ne (by omega), sI_at]
  have r := c_readR hT hP1 hP u3 z2 (by rw [f3.1 _ _ (by omega)]; exact a3) (by rw [f3.1 _ _ (by omega)]; exact a4)
  have f13 : Fz xRw lRw h (new194 (nI P) h2) := (a5.mono (fun a k q => by unfold xOp at q; unfold xRw; omega) (fun a k q => by unfold lOp at q; unfold lRw; omega)).tr (f3.mono (fun a k q => by unfold xRw; omega) (fun _ _ q => q.elim))
  have kf : ∀ g v w, g.1 2 13 = v → g.1 2 14 = w → ∃ g', (∀ K : CH → Option (Int32 × CH), (cl (f_X11_keepFault g) fun _ h_4 => wrF h_4 0 1 (nI 0) K) = K g') ∧ g'.1 0 1 = nI 0 ∧ g'.1 0 2 = v ∧ g'.1 0 3 = w ∧ Fr (fun a k => a = 0 ∧ 1 ≤ k ∧ k ≤ 3) g g' := by
    intro g v w e1 e2
    refine ⟨sI (sI (sI g 0 2 v) 0 3 w) 0 1 (nI 0), fun K => ?_, sI_at, by rw [sI_ne (by omega), sI_ne (by omega), sI_at], by rw [sI_ne (by omega), sI_at], ((Fr.sI (by omega)).tr (Fr.sI (by omega))).tr (Fr.sI (by omega))⟩
    unfold f_X11_keepFault
    rw [wrF_eq, wrF_eq, cl_some, wrF_eq, e1, sI_ne (by omega), e2]
  cases es : sRs (tks true n X) P (N + 1) 0 q0 with
  | error e =>
    rw [es] at r
    obtain ⟨g, b1, b2, b3, b4⟩ := r
    obtain ⟨g', k1, k2, k3, k4, k5⟩ := kf g _ _ b2 b3
    refine ⟨g', ?_, k2, k3, k4, (f13.tr (b4.mono xRl_w lRl_w)).tr ((Fz.fr k5).mono (fun a k q => by unfold xRw; omega) (fun _ _ q => q))⟩
    rw [b1, cl_some, k1, if_pos (by decide)]
  | ok q =>
    rw [es] at r
    obtain ⟨g, b1, ⟨⟨j, b2⟩, b3⟩, b4⟩ := r
    obtain ⟨g', k1, k2, k3, k4, k5⟩ := kf g _ _ b2.2.1 b2.2.2.1
    have b5 : SL (tks true n X) N P j q g' := by
      obtain ⟨s0, s1, s2, s3, s4, s5, s6, s7⟩ := b2
      have kz := Fz.fr (L := fun _ _ => False) k5
      refine ⟨s0.fz kz (by intro k hk; omega) (by intro c; omega) (by intro c; omega) (by intro c; exact id) id, ?_, ?_, ?_, ?_, ?_, s6.fz kz (fun k _ => ⟨by omega, by omega⟩), s7.fz kz (fun k hk => by omega) (fun k => by omega) (fun k => by omega) (fun _ => id)⟩
      · rw [kz.1 _ _ (by omega)]; exact s1
      · rw [kz.1 _ _ (by omega)]; exact s2
      · rw [kz.1 _ _ (by omega)]; exact s3
      · rw [kz.1 _ _ (by omega)]; exact s4
      · rw [kz.1 _ _ (by omega)]; exact s5
    obtain ⟨g2, l1, l2, l3⟩ := c_copyR b5 b3
    refine ⟨g2, ?_, by rw [l3.1 _ _ (by omega)]; exact k2, by rw [l3.1 _ _ (by omega)]; exact k3, by rw [l3.1 _ _ (by omega)]; exact k4, l2, ((f13.tr (b4.mono xRl_w lRl_w)).tr ((Fz.fr k5).mono (fun a k q => by unfold xRw; omega) (fun _ _ q => q))).mono (fun _ _ q => Or.inl q) (fun _ _ q => Or.inl q) |>.tr (l3.mono (fun a k q => Or.inr q) (fun a k q => Or.inr q))⟩
    rw [b1, cl_some, k1, if_neg (by decide), l1, cl_some]
    have el : f_X5_lines_55 g2 = some (nI (qLn q)) := by
      unfold f_X5_lines_55 qLn
      rw [jn_eq, l2.2.1.2.1, l2.2.1.1]
      cases (qb q).isSome with
      | true => rw [if_neg (by decide), if_pos rfl]; exact congrArg some (uI_add _ _)
      | false => rw [if_pos (by decide), if_neg (by decide)]; exact congrArg some (uI_add _ _)
    rw [el, clp_some]
