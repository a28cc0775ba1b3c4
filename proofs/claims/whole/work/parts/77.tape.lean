/-! the tape: a byte of a number, by the class and by the reference -/
def byC (x s : Int32) : Int32 := ((x.toUInt32 >>> (s.toUInt32 &&& Int32.toUInt32 31)).toInt32).toInt8.toInt32
def byM (x s : Int32) : Int32 := (x >>> (s &&& 31)).toInt8.toInt32
theorem by_eq (x : Int32) {s : Int32} (hs : s = nI 24 ∨ s = nI 16 ∨ s = nI 8 ∨ s = nI 0) : byC x s = byM x s := by
  unfold byC byM
  refine congrArg Int8.toInt32 ?_
  apply Int8.toBitVec_inj.1
  rw [Int32.toBitVec_toInt8, Int32.toBitVec_toInt8]
  have e1 : ∀ z : UInt32, z.toInt32.toBitVec = z.toBitVec := fun _ => rfl
  have e2 : x.toUInt32.toBitVec = x.toBitVec := rfl
  rw [e1, UInt32.toBitVec_shiftRight, Int32.toBitVec_shiftRight, e2]
  have key : ∀ (b c : BitVec 32) (k : Nat), k ≤ 24 → b.toNat = k → c.toNat = k → (x.toBitVec >>> b).signExtend 8 = (x.toBitVec.sshiftRight' c).signExtend 8 := by
    intro b c k hk hb hc
    rw [BitVec.signExtend_eq_setWidth_of_le _ (by omega), BitVec.signExtend_eq_setWidth_of_le _ (by omega)]
    apply BitVec.eq_of_getLsbD_eq
    intro i hi
    rw [BitVec.getLsbD_setWidth, BitVec.getLsbD_setWidth, BitVec.sshiftRight_eq', BitVec.getLsbD_sshiftRight, BitVec.ushiftRight_eq', BitVec.getLsbD_ushiftRight, hb, hc]
    simp [show k + i < 32 by omega, show ¬ 32 ≤ i by omega]
  rcases hs with e | e | e | e <;> subst e
  · refine key _ _ 24 (by omega) ?_ ?_ <;> decide
  · refine key _ _ 16 (by omega) ?_ ?_ <;> decide
  · refine key _ _ 8 (by omega) ?_ ?_ <;> decide
  · refine key _ _ 0 (by omega) ?_ ?_ <;> decide
/-- byte i of a number -/
def tpB (x : Int32) (i : Nat) : Int32 := vp_nar .byte (byM x (nI (24 - 8 * i)))
theorem c_put {x : Int32} {h : CH} {n : Nat} (hn : n + 4 ≤ 1600) (h1 : h.1 0 1 = nI n) : ∃ h', f_X11_putOnTape x h = some ((), h') ∧ h'.1 0 1 = nI (n + 4) ∧ (∀ j, h'.1 1 j = if n ≤ j ∧ j < n + 4 then tpB x (j - n) else h.1 1 j) ∧ Fr (fun c j => c = 1 ∨ (c = 0 ∧ j = 1)) h h' := by
  have st : ∀ (m : Nat) (s : Int32) (g : CH) (q : Nat), q < 1600 → g.1 0 1 = nI q → (s < 0) = False → f_X11_putOnTape_L3 x (m + 1) s g = f_X11_putOnTape_L3 x m (s + (-8)) (sI (sI g 1 q (vp_nar .byte (byC x s))) 0 1 (nI (q + 1))) := by
    intro m s g q hq hg hs
    conv => lhs; unfold f_X11_putOnTape_L3
    simp only [hs, if_false]
    rw [jn_eq, hg]
    have n4 : (nI q < nI 1600) = True := by rw [uI_lt (by omega) (by omega)]; exact eq_true hq
    simp only [n4, if_true]
    rw [wrB_nI hq (by omega), wrF_eq]
    have : (sI g 1 q (vp_nar .byte (byC x s))).1 0 1 = nI q := by rw [sI_1, if_neg (by omega)]; exact hg
    unfold byC at this ⊢
    rw [this, uI_add]
  have en : ∀ m g, f_X11_putOnTape_L3 x (m + 1) (-8) g = some ((), g) := by
    intro m g
    unfold f_X11_putOnTape_L3
    rw [if_pos (by decide)]
  unfold f_X11_putOnTape
  show ∃ h', f_X11_putOnTape_L3 x (99995 + 1 + 1 + 1 + 1 + 1) (nI 24) h = _ ∧ _
  rw [st _ _ h n (by omega) h1 (by decide), show nI 24 + (-8) = nI 16 from by decide]
  rw [st _ _ _ (n + 1) (by omega) (by rw [sI_1, if_pos ⟨rfl, rfl⟩]) (by decide), show nI 16 + (-8) = nI 8 from by decide]
  rw [st _ _ _ (n + 1 + 1) (by omega) (by rw [sI_1, if_pos ⟨rfl, rfl⟩]) (by decide), show nI 8 + (-8) = nI 0 from by decide]
  rw [st _ _ _ (n + 1 + 1 + 1) (by omega) (by rw [sI_1, if_pos ⟨rfl, rfl⟩]) (by decide), show nI 0 + (-8) = -8 from by decide, en]
  rw [by_eq x (Or.inl rfl), by_eq x (Or.inr (Or.inl rfl)), by_eq x (Or.inr (Or.inr (Or.inl rfl))), by_eq x (Or.inr (Or.inr (Or.inr rfl)))]
  refine ⟨_, rfl, ?_, fun j => ?_, ?_⟩
  · rw [sI_1, if_pos ⟨rfl, rfl⟩]
  · simp only [sI_1]
    by_cases e3 : j = n + 1 + 1 + 1
    · rw [if_pos (show n ≤ j ∧ j < n + 4 by omega), show j - n = 3 by omega]; simp [e3]; rfl
    by_cases e2 : j = n + 1 + 1
    · rw [if_pos (show n ≤ j ∧ j < n + 4 by omega), show j - n = 2 by omega]; simp [e2]; rfl
    by_cases e1 : j = n + 1
    · rw [if_pos (show n ≤ j ∧ j < n + 4 by omega), show j - n = 1 by omega]; simp [e1]; rfl
    by_cases e0 : j = n
    · rw [if_pos (show n ≤ j ∧ j < n + 4 by omega), show j - n = 0 by omega]; simp [e0, show ¬ n = n + 1 + 1 + 1 by omega, show ¬ n = n + 1 + 1 by omega]; rfl
    have : ¬ (n ≤ j ∧ j < n + 4) := by omega
    simp [e0, e1, e2, e3, this]
  · exact (((((((Fr.sI (by omega)).tr (Fr.sI (by omega))).tr (Fr.sI (by omega))).tr (Fr.sI (by omega))).tr (Fr.sI (by omega))).tr (Fr.sI (by omega))).tr (Fr.sI (by omega))).tr (Fr.sI (by omega))
