/-! both sides read a town: the whole call -/
theorem c_setPr7 {h : CH} {p : Nat} (b c : Int32) (hp : p ≤ 3) : f_X9_setPrinter_7 (nI p) b c h = some ((), sI (sI h 29 p b) 30 p c) := by
  unfold f_X9_setPrinter_7
  rw [if_neg (lt0n (by omega)), if_pos (by rw [uI_lt (by omega) (by omega)]; omega), wrA_nI (by omega) (by omega), wrA_nI (by omega) (by omega)]
theorem c_cp2 {h0 : CH} : ∀ g m h, m ≤ 4 → 4 - m < g → (∀ p, p < m → h.1 29 p = h0.1 53 p ∧ h.1 30 p = h0.1 54 p) → (∀ p, h.1 53 p = h0.1 53 p ∧ h.1 54 p = h0.1 54 p) → ∃ h', f_X9_copyFrom_7_31_L115 g (nI m) h = some ((), h') ∧ (∀ p, p < 4 → h'.1 29 p = h0.1 53 p ∧ h'.1 30 p = h0.1 54 p) ∧ Fr (fun a _ => a = 29 ∨ a = 30) h h' := by
  intro g
  induction g with
  | zero => intro m h _ h2; omega
  | succ g ih =>
    intro m h h1 h2 h3 h4
    unfold f_X9_copyFrom_7_31_L115
    by_cases c : m < 4
    · rw [if_pos (by rw [uI_lt (by omega) (by omega)]; exact c), rdA_nI (by omega) (by omega), rdA_nI (by omega) (by omega), c_setPr7 _ _ (by omega), cl_some, uI_add, (h4 m).1, (h4 m).2]
      obtain ⟨h', g1, g2, g3⟩ := ih (m + 1) (sI (sI h 29 m (h0.1 53 m)) 30 m (h0.1 54 m)) (by omega) (by omega) (fun p hp => by
        by_cases e : p = m
        · rw [e, sI_ne (by omega), sI_at, sI_at]; exact ⟨rfl, rfl⟩
        · rw [sI_ne (by omega), sI_ne (by omega), sI_ne (by omega), sI_ne (by omega)]; exact h3 p (by omega)) (fun p => by rw [sI_ne (by omega), sI_ne (by omega), sI_ne (by omega), sI_ne (by omega)]; exact h4 p)
      exact ⟨h', g1, g2, ((Fr.sI (by omega)).tr (Fr.sI (by omega))).tr g3⟩
    · rw [if_neg (by rw [uI_lt (by omega) (by omega)]; exact c)]
      exact ⟨h, rfl, fun p hp => h3 p (by omega), Fr.rf⟩
def cpd (h : CH) (a b : Nat) : CH := (fun c j => if c = b ∧ j < 8 then h.1 a j else h.1 c j, h.2)
theorem cpA_eq {σ : Type} (h : CH) (a b : Nat) (K : CH → Option σ) : cpA h a b K = K (cpd h a b) := rfl
theorem cpd_ne {h : CH} {a b c j : Nat} (e : ¬ (c = b ∧ j < 8)) : (cpd h a b).1 c j = h.1 c j := if_neg e
theorem cpd_at {h : CH} {a b j : Nat} (hj : j < 8) : (cpd h a b).1 b j = h.1 a j := if_pos ⟨rfl, hj⟩
theorem Fz.cpd {S L : Nat → Nat → Prop} {h : CH} {a b : Nat} (hS : ∀ k, S b k) : Fz S L h (cpd h a b) := ⟨fun x k hx => cpd_ne (fun e => hx (e.1 ▸ hS k)), fun _ _ _ => rfl⟩
theorem c_cp1 {h0 : CH} : ∀ g m h, m ≤ 16 → 16 - m < g → (∀ f, f < m → h.1 9 f = h0.1 33 f ∧ h.1 10 f = h0.1 34 f ∧ h.1 28 f = h0.1 52 f ∧ ∀ i, i < 8 → h.1 (12 + f) i = h0.1 (36 + f) i) → (∀ a k, 31 ≤ a → a ≤ 54 → h.1 a k = h0.1 a k) → ∃ h', f_X9_copyFrom_7_31_L34 g (nI m) h = some ((), h') ∧ (∀ f, f < 16 → h'.1 9 f = h0.1 33 f ∧ h'.1 10 f = h0.1 34 f ∧ h'.1 28 f = h0.1 52 f ∧ ∀ i, i < 8 → h'.1 (12 + f) i = h0.1 (36 + f) i) ∧ (∀ p, p < 4 → h'.1 29 p = h0.1 53 p ∧ h'.1 30 p = h0.1 54 p) ∧ Fz (fun a _ => 9 ≤ a ∧ a ≤ 30) (fun a _ => a = 8) h h' := by
  intro g
  induction g with
  | zero => intro m h _ h2; omega
  | succ g ih =>
    intro m h h1 h2 h3 h4
    unfold f_X9_copyFrom_7_31_L34
    by_cases c : m < 16
    · rw [if_pos (by rw [uI_lt (by omega) (by omega)]; exact c), rdL_nI (by omega) (by omega), wrL_nI (by omega) (by omega), rdA_nI (by omega) (by omega), wrA_nI (by omega) (by omega), rdA_nI (by omega) (by omega), wrA_nI (by omega) (by omega), rdA_nI (by omega) (by omega), wrA_nI (by omega) (by omega), rdQ_nI (by omega) (by omega), rdQ_nI (by omega) (by omega), cpA_eq, uI_add]
      have e1 : (sL h 8 m (h.2 32 m)).1 33 m = h0.1 33 m := by rw [sL_1]; exact h4 _ _ (by omega) (by omega)
      rw [e1]
      have e2 : (sI (sL h 8 m (h.2 32 m)) 9 m (h0.1 33 m)).1 34 m = h0.1 34 m := by rw [sI_ne (by omega), sL_1]; exact h4 _ _ (by omega) (by omega)
      rw [e2]
      have e3 : (sI (sI (sL h 8 m (h.2 32 m)) 9 m (h0.1 33 m)) 10 m (h0.1 34 m)).1 52 m = h0.1 52 m := by rw [sI_ne (by omega), sI_ne (by omega), sL_1]; exact h4 _ _ (by omega) (by omega)
      rw [e3]
      have F1 : Fz (fun a k => (a = 9 ∨ a = 10 ∨ a = 28) ∧ k = m ∨ a = 12 + m) (fun a _ => a = 8) h (cpd (sI (sI (sI (sL h 8 m (h.2 32 m)) 9 m (h0.1 33 m)) 10 m (h0.1 34 m)) 28 m (h0.1 52 m)) (36 + m) (12 + m)) := by
        refine ((((Fz.sL ?_).tr (Fz.sI ?_)).tr (Fz.sI ?_)).tr (Fz.sI ?_)).tr (Fz.cpd ?_)
        · show 8 = 8; rfl
        · omega
        · omega
        · omega
        · intro k; omega
      have e9 : (cpd (sI (sI (sI (sL h 8 m (h.2 32 m)) 9 m (h0.1 33 m)) 10 m (h0.1 34 m)) 28 m (h0.1 52 m)) (36 + m) (12 + m)).1 9 m = h0.1 33 m := by rw [cpd_ne (by omega), sI_ne (by omega), sI_ne (by omega), sI_at]
      have e10 : (cpd (sI (sI (sI (sL h 8 m (h.2 32 m)) 9 m (h0.1 33 m)) 10 m (h0.1 34 m)) 28 m (h0.1 52 m)) (36 + m) (12 + m)).1 10 m = h0.1 34 m := by rw [cpd_ne (by omega), sI_ne (by omega), sI_at]
      have e28 : (cpd (sI (sI (sI (sL h 8 m (h.2 32 m)) 9 m (h0.1 33 m)) 10 m (h0.1 34 m)) 28 m (h0.1 52 m)) (36 + m) (12 + m)).1 28 m = h0.1 52 m := by rw [cpd_ne (by omega), sI_at]
      have er : ∀ i, i < 8 → (cpd (sI (sI (sI (sL h 8 m (h.2 32 m)) 9 m (h0.1 33 m)) 10 m (h0.1 34 m)) 28 m (h0.1 52 m)) (36 + m) (12 + m)).1 (12 + m) i = h0.1 (36 + m) i := fun i hi => by rw [cpd_at hi, sI_ne (by omega), sI_ne (by omega), sI_ne (by omega), sL_1]; exact h4 _ _ (by omega) (by omega)
      generalize cpd (sI (sI (sI (sL h 8 m (h.2 32 m)) 9 m (h0.1 33 m)) 10 m (h0.1 34 m)) 28 m (h0.1 52 m)) (36 + m) (12 + m) = q at *
      obtain ⟨h', g1, g2, g3, g4⟩ := ih (m + 1) q (by omega) (by omega) (fun f hf => by
        by_cases e : f = m
        · rw [e]; exact ⟨e9, e10, e28, er⟩
        · obtain ⟨z1, z2, z3, z4⟩ := h3 f (by omega)
          refine ⟨?_, ?_, ?_, fun i hi => ?_⟩
          · rw [F1.1 _ _ (by omega)]; exact z1
          · rw [F1.1 _ _ (by omega)]; exact z2
          · rw [F1.1 _ _ (by omega)]; exact z3
          · rw [F1.1 _ _ (by omega)]; exact z4 i hi) (fun a k k1 k2 => by rw [F1.1 _ _ (by omega)]; exact h4 a k k1 k2)
      exact ⟨h', g1, g2, g3, (F1.mono (fun a k z => by omega) (fun _ _ z => z)).tr g4⟩
    · rw [if_neg (by rw [uI_lt (by omega) (by omega)]; exact c)]
      obtain ⟨h', g1, g2, g3⟩ := c_cp2 (h0 := h0) FU 0 h (by omega) (by show _ < 100000; omega) (fun p hp => by omega) (fun p => ⟨h4 _ _ (by omega) (by omega), h4 _ _ (by omega) (by omega)⟩)
      refine ⟨h', g1, fun f hf => ?_, g2, (Fz.fr g3).mono (fun a k z => by omega) (fun _ _ z => z)⟩
      obtain ⟨z1, z2, z3, z4⟩ := h3 f (by omega)
      refine ⟨?_, ?_, ?_, fun i hi => ?_⟩
      · rw [g3.1 _ _ (by omega)]; exact z1
      · rw [g3.1 _ _ (by omega)]; exact z2
      · rw [g3.1 _ _ (by omega)]; exact z3
      · rw [g3.1 _ _ (by omega)]; exact z4 i hi
theorem c_copyT {t : Tn} {h : CH} (c : CT 31 t h) (hV : VT t) : ∃ h', f_X9_copyFrom_7_31 h = some ((), h') ∧ CT 7 t h' ∧ Fz (fun a _ => a = 7 ∨ (9 ≤ a ∧ a ≤ 30)) (fun a _ => a = 8) h h' := by
  unfold f_X9_copyFrom_7_31
  have h16 := hV.2.2.1
  have h8 := hV.2.1
  rw [wrF_eq, wrF_eq, wrF_eq, wrF_eq, sI_ne (by omega), sI_ne (by omega), sI_ne (by omega), sI_ne (by omega), sI_ne (by omega), sI_ne (by omega)]
  have hF : Fz (fun a _ => a = 7) (fun a _ => a = 8) h (sI (sI (sI (sI h 7 0 (h.1 31 0)) 7 1 (h.1 31 1)) 7 2 (h.1 31 2)) 7 3 (h.1 31 3)) := by
    refine (((Fz.sI ?_).tr (Fz.sI ?_)).tr (Fz.sI ?_)).tr (Fz.sI ?_) <;> rfl
  have e0 : (sI (sI (sI (sI h 7 0 (h.1 31 0)) 7 1 (h.1 31 1)) 7 2 (h.1 31 2)) 7 3 (h.1 31 3)).1 7 0 = h.1 31 0 := by rw [sI_ne (by omega), sI_ne (by omega), sI_ne (by omega), sI_at]
  have e1 : (sI (sI (sI (sI h 7 0 (h.1 31 0)) 7 1 (h.1 31 1)) 7 2 (h.1 31 2)) 7 3 (h.1 31 3)).1 7 1 = h.1 31 1 := by rw [sI_ne (by omega), sI_ne (by omega), sI_at]
  have e2 : (sI (sI (sI (sI h 7 0 (h.1 31 0)) 7 1 (h.1 31 1)) 7 2 (h.1 31 2)) 7 3 (h.1 31 3)).1 7 2 = h.1 31 2 := by rw [sI_ne (by omega), sI_at]
  have e3 : (sI (sI (sI (sI h 7 0 (h.1 31 0)) 7 1 (h.1 31 1)) 7 2 (h.1 31 2)) 7 3 (h.1 31 3)).1 7 3 = h.1 31 3 := sI_at
  generalize sI (sI (sI (sI h 7 0 (h.1 31 0)) 7 1 (h.1 31 1)) 7 2 (h.1 31 2)) 7 3 (h.1 31 3) = g at *
  obtain ⟨h', g1, g2, g3, g4⟩ := c_cp1 (h0 := h) FU 0 g (by omega) (by show _ < 100000; omega) (fun f hf => by omega) (fun a k h1 h2 => hF.1 _ _ (by omega))
  obtain ⟨c0, c1, c2, c3, c4, c5, c6, c7, c8, c9⟩ := c
  refine ⟨h', g1, ⟨?_, ?_, ?_, ?_, fun f hf => (g2 f (by omega)).1.trans (c4 f hf), fun f hf => (g2 f (by omega)).2.1.trans (c5 f hf), fun f hf i hi => ((g2 f (by omega)).2.2.2 i (by omega)).trans (c6 f hf i hi), fun f hf => (g2 f hf).2.2.1.trans (c7 f hf), fun p hp => (g3 p hp).1.trans (c8 p hp), fun p hp => (g3 p hp).2.trans (c9 p hp)⟩, (hF.mono (fun a k q => Or.inl q) (fun _ _ q => q)).tr (g4.mono (fun a k q => Or.inr q) (fun _ _ q => q))⟩
  · rw [g4.1 _ _ (by omega), e0]; exact c0
  · rw [g4.1 _ _ (by omega), e1]; exact c1
  · rw [g4.1 _ _ (by omega), e2]; exact c2
  · rw [g4.1 _ _ (by omega), e3]; exact c3
/-- the class's call: a new reader (cell 193), its fields at naught -/
def new193 (h : CH) : CH := sI (sI (sI h 193 2 (nI 0)) 193 3 (nI 0)) 193 4 (nI 0)
def f_X11_town (h : CH) : Option (Int32 × CH) := cl (f_X8_open (h.1 0 1) (nI 0) h) fun _ h_1 => cl (f_X10_read (new193 h_1)) fun v_2 h_3 => cl (f_X11_keepFault h_3) fun _ h_4 => wrF h_4 0 1 (nI 0) fun h_5 => (if v_2 = 0 then some (-1, h_5) else cl (f_X9_copyFrom_7_31 h_5) fun _ h_6 => cl (f_X5_clear_55 h_6) fun _ h_7 => cl (f_X2_empty_71 h_7) fun _ h_8 => cl (f_X11_emptyBoxes h_8) fun _ h_9 => some (h_9.1 7 2, h_9))
/-- cells that a read of a town may write: the reader's, the draft's, tape count, fault -/
def xTw (a k : Nat) : Prop := (a = 2 ∧ 5 ≤ k ∧ k ≤ 14) ∨ a = 4 ∨ a = 5 ∨ (31 ≤ a ∧ a ≤ 54) ∨ (a = 193 ∧ 2 ≤ k ∧ k ≤ 4) ∨ (a = 0 ∧ 1 ≤ k ∧ k ≤ 3)
def lTw (a k : Nat) : Prop := (a = 2 ∧ k = 12) ∨ a = 6 ∨ a = 32
def xTo (a k : Nat) : Prop := xTw a k ∨ a = 7 ∨ (9 ≤ a ∧ a ≤ 30) ∨ (a = 55 ∧ (k = 0 ∨ k = 1 ∨ k = 2 ∨ k = 5)) ∨ (a = 71 ∧ k = 0) ∨ xEB a k
def lTo (a k : Nat) : Prop := lTw a k ∨ a = 8
set_option maxHeartbeats 4000000 in
theorem c_town {n : Nat} {X : Nat → Nat} {N : Nat} {h : CH} (hB : TXN false n X N) (h1 : h.1 0 1 = nI n) (hx : ∀ j, j < n → (h.1 1 j &&& nI 255) = nI (X j)) (hr : ∀ r, r < 24 → h.2 3 r = nL (w5 (lw r))) : match sTw (tks false n X) (N + 1) 0 d0 with
    | .error e => ∃ h', f_X11_town h = some (-1, h') ∧ h'.1 0 1 = nI 0 ∧ h'.1 0 2 = nI e.1 ∧ h'.1 0 3 = nI e.2 ∧ Fz xTw lTw h h'
    | .ok d => ∃ h', f_X11_town h = some (nI (dF d), h') ∧ h'.1 0 1 = nI 0 ∧ h'.1 0 2 = nI 0 ∧ h'.1 0 3 = -1 ∧ CT 7 (dt d) h' ∧ VD d ∧ h'.1 55 0 = nI 0 ∧ h'.1 55 1 = nI 0 ∧ h'.1 55 2 = nI 0 ∧ h'.1 55 5 = nI 0 ∧ h'.1 71 0 = nI 0 ∧ CBx (fun _ => none) h' ∧ Fz xTo lTo h h' := by
  obtain ⟨hX, hT, hp⟩ := hB
  unfold f_X11_town
  obtain ⟨h2, a1, a2, a3, a4, a5⟩ := c_openT (rl := false) hX hT hp hx hr
  rw [h1, show nI 0 = bI false from rfl, a1, cl_some]
  have f3 : Fz (fun a k => a = 193 ∧ 2 ≤ k ∧ k ≤ 4) (fun _ _ => False) h2 (new193 h2) := ((Fz.sI (by omega)).tr (Fz.sI (by omega))).tr (Fz.sI (by omega))
  have u3 := a2.fz f3 (by intro k hk; omega) (by intro c; omega) (by intro c; omega) (by intro c; exact id) id
  have z2 : (new193 h2).1 193 2 = nI 0 := by unfold new193; rw [sI_ne (by omega), sI_ne (by omega), sI_at]
  have z3 : (new193 h2).1 193 3 = nI 0 := by unfold new193; rw [sI_ne (by omega), sI_at]
  have z4 : (new193 h2).1 193 4 = nI 0 := by unfold new193; rw [sI_at]
  have r := c_read hT u3 z2 z3 z4 (by rw [f3.1 _ _ (by omega)]; exact a3) (by rw [f3.1 _ _ (by omega)]; exact a4)
  have f13 : Fz xTw lTw h (new193 h2) := (a5.mono (fun a k q => by unfold xOp at q; unfold xTw; omega) (fun a k q => by unfold lOp at q; unfold lTw; omega)).tr (f3.mono (fun a k q => by unfold xTw; omega) (fun _ _ q => q.elim))
  have kf : ∀ g v w, g.1 2 13 = v → g.1 2 14 = w → Fz xT lT (new193 h2) g → ∃ g', (∀ K : CH → Option (Int32 × CH), (cl (f_X11_keepFault g) fun _ h_4 => wrF h_4 0 1 (bI false) K) = K g') ∧ g'.1 0 1 = nI 0 ∧ g'.1 0 2 = v ∧ g'.1 0 3 = w ∧ Fr (fun a k => a = 0 ∧ 1 ≤ k ∧ k ≤ 3) g g' := by
    intro g v w e1 e2 _
    refine ⟨sI (sI (sI g 0 2 v) 0 3 w) 0 1 (nI 0), fun K => ?_, sI_at, by rw [sI_ne (by omega), sI_ne (by omega), sI_at], by rw [sI_ne (by omega), sI_at], ((Fr.sI (by omega)).tr (Fr.sI (by omega))).tr (Fr.sI (by omega))⟩
    unfold f_X11_keepFault
    rw [wrF_eq, wrF_eq, cl_some, wrF_eq, e1, sI_ne (by omega), e2]
    rfl
  cases es : sTw (tks false n X) (N + 1) 0 d0 with
  | error e =>
    rw [es] at r
    obtain ⟨g, b1, b2, b3, b4⟩ := r
    obtain ⟨g', k1, k2, k3, k4, k5⟩ := kf g _ _ b2 b3 b4
    refine ⟨g', ?_, k2, k3, k4, (f13.tr (b4.mono (fun a k q => by unfold xT at q; unfold xTw; omega) (fun a k q => by unfold lT at q; unfold lTw; omega))).tr ((Fz.fr k5).mono (fun a k q => by unfold xTw; omega) (fun _ _ q => q))⟩
    rw [b1, cl_some, k1, if_pos (by decide)]
  | ok d =>
    rw [es] at r
    obtain ⟨g, b1, ⟨b2, b2', b3, b3'⟩, b4⟩ := r
    obtain ⟨g', k1, k2, k3, k4, k5⟩ := kf g _ _ b3 b3' b4
    have c2 : CT 31 (dt d) g' := b2.1.fr k5 (fun a k q1 q2 => by omega) b2'.1
    obtain ⟨g2, l1, l2, l3⟩ := c_copyT c2 b2'.1
    have e6 : f_X5_clear_55 g2 = some ((), sI (sI (sI (sI g2 55 0 (nI 0)) 55 1 (nI 0)) 55 5 (nI 0)) 55 2 (nI 0)) := by
      unfold f_X5_clear_55
      rw [wrF_eq, wrF_eq, wrF_eq, wrG_0]
    have F3 : Fr (fun a k => a = 55 ∧ (k = 0 ∨ k = 1 ∨ k = 2 ∨ k = 5)) g2 (sI (sI (sI (sI g2 55 0 (nI 0)) 55 1 (nI 0)) 55 5 (nI 0)) 55 2 (nI 0)) := (((Fr.sI (by omega)).tr (Fr.sI (by omega))).tr (Fr.sI (by omega))).tr (Fr.sI (by omega))
    have y0 : (sI (sI (sI (sI g2 55 0 (nI 0)) 55 1 (nI 0)) 55 5 (nI 0)) 55 2 (nI 0)).1 55 0 = nI 0 := by rw [sI_ne (by omega), sI_ne (by omega), sI_ne (by omega), sI_at]
    have y1 : (sI (sI (sI (sI g2 55 0 (nI 0)) 55 1 (nI 0)) 55 5 (nI 0)) 55 2 (nI 0)).1 55 1 = nI 0 := by rw [sI_ne (by omega), sI_ne (by omega), sI_at]
    have y5 : (sI (sI (sI (sI g2 55 0 (nI 0)) 55 1 (nI 0)) 55 5 (nI 0)) 55 2 (nI 0)).1 55 5 = nI 0 := by rw [sI_ne (by omega), sI_at]
    have y2 : (sI (sI (sI (sI g2 55 0 (nI 0)) 55 1 (nI 0)) 55 5 (nI 0)) 55 2 (nI 0)).1 55 2 = nI 0 := sI_at
    generalize sI (sI (sI (sI g2 55 0 (nI 0)) 55 1 (nI 0)) 55 5 (nI 0)) 55 2 (nI 0) = g3 at *
    have e7 : f_X2_empty_71 g3 = some ((), sI g3 71 0 (nI 0)) := by
      unfold f_X2_empty_71
      rw [wrF_eq]
    have F4 : Fr (fun a k => a = 71 ∧ k = 0) g3 (sI g3 71 0 (nI 0)) := Fr.sI (by omega)
    have y7 : (sI g3 71 0 (nI 0)).1 71 0 = nI 0 := sI_at
    generalize sI g3 71 0 (nI 0) = g4 at *
    obtain ⟨g5, m1, m2, m3⟩ := c_emptyBoxes g4
    have F25 : Fr (fun a k => (a = 55 ∧ (k = 0 ∨ k = 1 ∨ k = 2 ∨ k = 5)) ∨ (a = 71 ∧ k = 0) ∨ xEB a k) g2 g5 := ((F3.mono (fun a k q => Or.inl q)).tr (F4.mono (fun a k q => Or.inr (Or.inl q)))).tr (m3.mono (fun a k q => Or.inr (Or.inr q)))
    have c5 : CT 7 (dt d) g5 := l2.fr F25 (fun a k q1 q2 => by unfold xEB; omega) b2'.1
    refine ⟨g5, ?_, ?_, ?_, ?_, c5, b2', ?_, ?_, ?_, ?_, ?_, m2, ?_⟩
    · rw [b1, cl_some, k1, if_neg (by decide), l1, cl_some, e6, cl_some, e7, cl_some, m1, cl_some, c5.2.2.1]
      rfl
    · rw [F25.1 _ _ (by unfold xEB; omega), l3.1 _ _ (by omega)]; exact k2
    · rw [F25.1 _ _ (by unfold xEB; omega), l3.1 _ _ (by omega)]; exact k3
    · rw [F25.1 _ _ (by unfold xEB; omega), l3.1 _ _ (by omega)]; exact k4
    · rw [m3.1 _ _ (by unfold xEB; omega), F4.1 _ _ (by omega)]; exact y0
    · rw [m3.1 _ _ (by unfold xEB; omega), F4.1 _ _ (by omega)]; exact y1
    · rw [m3.1 _ _ (by unfold xEB; omega), F4.1 _ _ (by omega)]; exact y2
    · rw [m3.1 _ _ (by unfold xEB; omega), F4.1 _ _ (by omega)]; exact y5
    · rw [m3.1 _ _ (by unfold xEB; omega)]; exact y7
    · have w1 : Fz xTo lTo h g' := ((f13.tr (b4.mono (fun a k q => by unfold xT at q; unfold xTw; omega) (fun a k q => by unfold lT at q; unfold lTw; omega))).tr ((Fz.fr k5).mono (fun a k q => by unfold xTw; omega) (fun _ _ q => q))).mono (fun _ _ q => Or.inl q) (fun _ _ q => Or.inl q)
      have w2 := w1.tr (l3.mono (fun a k q => by unfold xTo; omega) (fun a k q => Or.inr q))
      exact w2.tr ((Fz.fr F25).mono (fun a k q => Or.inr (Or.inr (Or.inr q))) (fun _ _ q => q))
