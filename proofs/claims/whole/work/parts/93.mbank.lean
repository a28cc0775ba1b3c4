/-! the model's bank of a town under way -/
def Md (rb : Nat) (d : Dr) (h : CH) : Prop := rb ≤ 1 ∧ h.1 151 27 = nI rb ∧ h.1 154 rb = nI (tP (dt d)) ∧ h.1 157 rb = tnr (dt d) ∧ h.1 155 rb = nI (dF d) ∧ h.1 156 rb = nI (tK (dt d)) ∧ (∀ f, f < dF d → h.1 158 (16 * rb + f) = tkd (dt d) f) ∧ (∀ f, f < dF d → h.1 159 (16 * rb + f) = tdr (dt d) f) ∧ (∀ f, f < dF d → ∀ i, i < tP (dt d) → h.1 160 (8 * (16 * rb + f) + i) = ttl (dt d) f i) ∧ (∀ f, f < 16 → h.1 161 (16 * rb + f) = tfr (dt d) f) ∧ (∀ p, p < 4 → h.1 162 (4 * rb + p) = tbl (dt d) p) ∧ (∀ p, p < 4 → h.1 163 (4 * rb + p) = tcs (dt d) p) ∧ h.1 164 rb = bI (dp d || decide (0 < dF d)) ∧ h.1 165 rb = bI (dq d) ∧ (∀ p, p < 4 → h.1 166 (4 * rb + p) = bI ((dm d).testBit p)) ∧ (∀ f, f < dF d → h.2 167 (16 * rb + f) = nL (w8 (dn d f)))
/-- what a line may write in bank rb -/
def xB (rb a k : Nat) : Prop := xM a k ∨ (154 ≤ a ∧ a ≤ 157 ∧ k = rb) ∨ (164 ≤ a ∧ a ≤ 165 ∧ k = rb) ∨ (158 ≤ a ∧ a ≤ 159 ∧ 16 * rb ≤ k ∧ k < 16 * rb + 16) ∨ (a = 161 ∧ 16 * rb ≤ k ∧ k < 16 * rb + 16) ∨ (a = 160 ∧ 128 * rb ≤ k ∧ k < 128 * rb + 128) ∨ (162 ≤ a ∧ a ≤ 163 ∧ 4 * rb ≤ k ∧ k < 4 * rb + 4) ∨ (a = 166 ∧ 4 * rb ≤ k ∧ k < 4 * rb + 4)
def lB (a k : Nat) : Prop := lG a k ∨ a = 167
theorem xM_B {rb : Nat} : ∀ a k, xM a k → xB rb a k := fun a k q => Or.inl q
theorem lG_B : ∀ a k, lG a k → lB a k := fun a k q => Or.inl q
theorem Md.fz {S L : Nat → Nat → Prop} {rb : Nat} {d : Dr} {h h' : CH} (c : Md rb d h) (hF : Fz S L h h') (hS : ∀ a k, 154 ≤ a → a ≤ 166 → ¬ S a k) (h27 : ¬ S 151 27) (hL : ∀ k, ¬ L 167 k) : Md rb d h' := by
  obtain ⟨c0, c1, c2, c3, c4, c5, c6, c7, c8, c9, c10, c11, c12, c13, c14, c15⟩ := c
  refine ⟨c0, ?_, ?_, ?_, ?_, ?_, fun f hf => ?_, fun f hf => ?_, fun f hf i hi => ?_, fun f hf => ?_, fun f hf => ?_, fun f hf => ?_, ?_, ?_, fun f hf => ?_, fun f hf => ?_⟩
  · rw [hF.1 _ _ h27]; exact c1
  · rw [hF.1 _ _ (hS _ _ (by omega) (by omega))]; exact c2
  · rw [hF.1 _ _ (hS _ _ (by omega) (by omega))]; exact c3
  · rw [hF.1 _ _ (hS _ _ (by omega) (by omega))]; exact c4
  · rw [hF.1 _ _ (hS _ _ (by omega) (by omega))]; exact c5
  · rw [hF.1 _ _ (hS _ _ (by omega) (by omega))]; exact c6 f hf
  · rw [hF.1 _ _ (hS _ _ (by omega) (by omega))]; exact c7 f hf
  · rw [hF.1 _ _ (hS _ _ (by omega) (by omega))]; exact c8 f hf i hi
  · rw [hF.1 _ _ (hS _ _ (by omega) (by omega))]; exact c9 f hf
  · rw [hF.1 _ _ (hS _ _ (by omega) (by omega))]; exact c10 f hf
  · rw [hF.1 _ _ (hS _ _ (by omega) (by omega))]; exact c11 f hf
  · rw [hF.1 _ _ (hS _ _ (by omega) (by omega))]; exact c12
  · rw [hF.1 _ _ (hS _ _ (by omega) (by omega))]; exact c13
  · rw [hF.1 _ _ (hS _ _ (by omega) (by omega))]; exact c14 f hf
  · rw [hF.2 _ _ (hL _)]; exact c15 f hf
theorem Md.tk {rb : Nat} {d : Dr} {h h' : CH} (c : Md rb d h) (hF : Fz xM lG h h') : Md rb d h' := c.fz hF (fun a k h1 h2 => by unfold xM; omega) (by unfold xM; omega) (fun k => by unfold lG; omega)
theorem vz_b (b : Bool) : vp_nar .boolean (bI b) = bI b := by cases b <;> decide
theorem vzb_1 : vp_nar .boolean (nI 1) = nI 1 := by decide
theorem vzb_0 : vp_nar .boolean (nI 0) = nI 0 := by decide
/-- what a line of the model gives -/
def Mln (T : Nat → Tk) (N n rb : Nat) (r : Ex (Nat × Dr)) (h : CH) : Prop := match r with
  | .error e => Mf n e h
  | .ok q => Mu T N q.1 h ∧ Md rb q.2 h ∧ VD q.2
theorem m_isFull {rl : Bool} {n : Nat} {X : Nat → Nat} {N i rb : Nat} {d : Dr} {h : CH} (hB : TXN rl n X N) (u : Mu (tks rl n X) N i h) (m : Md rb d h) (hV : VD d) : f_X12_isFull h = some (bI (if kC (tks rl n X i) = 0 then (dp d || decide (0 < dF d)) else if kC (tks rl n X i) = 1 then decide (dF d = 16) else if kC (tks rl n X i) = 5 then decide (tK (dt d) = 20) else if kC (tks rl n X i) = 9 then dq d else !decide (kC (tks rl n X i) = 6))) := by
  have h16 : dF d ≤ 16 := hV.1.2.2.1
  have h20 : tK (dt d) ≤ 20 := hV.1.2.2.2.1
  obtain ⟨c0, c1, c2, c3, c4, c5, c6, c7, c8, c9, c10, c11, c12, c13, c14, c15⟩ := m
  obtain ⟨b0, e0, f0⟩ := m_isW (j := i) (h := h) hB.2.1 (fun _ g => k8_0 g) (by omega)
  obtain ⟨b1, e1, f1⟩ := m_isW (j := i) (h := h) hB.2.1 (fun _ g => k8_1 g) (by omega)
  obtain ⟨b5, e5, f5⟩ := m_isW (j := i) (h := h) hB.2.1 (fun _ g => k8_5 g) (by omega)
  obtain ⟨b9, e9, f9⟩ := m_isW (j := i) (h := h) hB.2.1 (fun _ g => k8_9 g) (by omega)
  obtain ⟨b6, e6, f6⟩ := m_isW (j := i) (h := h) hB.2.1 (fun _ g => k8_6 g) (by omega)
  have f0 := f0 u
  have f1 := f1 u
  have f5 := f5 u
  have f9 := f9 u
  have f6 := f6 u
  subst f0 f1 f5 f9 f6
  unfold f_X12_isFull
  rw [e0, clp_some, ifB, c1, rdA_nI (by omega) (by omega), c12, rz_b]
  by_cases k0 : kC (tks rl n X i) = 0
  · rw [if_pos (decide_eq_true k0), if_pos k0]
  rw [if_neg (by rw [decide_eq_false k0]; decide), if_neg k0, e1, clp_some, ifB, rdA_nI (by omega) (by omega), c4]
  by_cases k1 : kC (tks rl n X i) = 1
  · rw [if_pos (decide_eq_true k1), if_pos k1, bI_ite]
    simp only [show (nI (dF d) = nI 16) = (dF d = 16) from uI_inj (by omega) (by omega)]
  rw [if_neg (by rw [decide_eq_false k1]; decide), if_neg k1, e5, clp_some, ifB, rdA_nI (by omega) (by omega), c5]
  by_cases k5 : kC (tks rl n X i) = 5
  · rw [if_pos (decide_eq_true k5), if_pos k5, bI_ite]
    simp only [show (nI (tK (dt d)) = nI 20) = (tK (dt d) = 20) from uI_inj (by omega) (by omega)]
  rw [if_neg (by rw [decide_eq_false k5]; decide), if_neg k5, e9, clp_some, ifB, rdA_nI (by omega) (by omega), c13, rz_b]
  by_cases k9 : kC (tks rl n X i) = 9
  · rw [if_pos (decide_eq_true k9), if_pos k9]
  rw [if_neg (by rw [decide_eq_false k9]; decide), if_neg k9, e6, clp_some, ifB]
  by_cases k6 : kC (tks rl n X i) = 6
  · rw [if_pos (decide_eq_true k6), decide_eq_true k6]; rfl
  · rw [if_neg (by rw [decide_eq_false k6]; decide), decide_eq_false k6]; rfl
