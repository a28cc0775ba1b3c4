/-! the model takes the tape, clears a bank -/
theorem bit255 (i : Nat) : (255#32).getLsbD i = decide (i < 8) := by
  show Nat.testBit (255 % 2 ^ 32) i = _
  rw [show 255 % 2 ^ 32 = 2 ^ 8 - 1 from rfl, Nat.testBit_two_pow_sub_one]
theorem b255 (v : Int32) : (vp_nar .byte v &&& nI 255) = (v &&& nI 255) := by
  rw [vp_nar_byte]
  apply Int32.toBitVec_inj.1
  rw [Int32.toBitVec_and, Int32.toBitVec_and]
  show (BitVec.signExtend 32 (BitVec.signExtend 8 v.toBitVec)) &&& 255#32 = v.toBitVec &&& 255#32
  apply BitVec.eq_of_getLsbD_eq
  intro i hi
  rw [BitVec.getLsbD_and, BitVec.getLsbD_and, bit255]
  by_cases c : i < 8
  · rw [BitVec.getLsbD_signExtend, BitVec.getLsbD_signExtend]
    simp [c, hi]
  · rw [decide_eq_false c, Bool.and_false, Bool.and_false]
theorem m255 (v : Int32) : (v &&& nI 255).toNatClampNeg < 256 ∧ (v &&& nI 255) = nI (v &&& nI 255).toNatClampNeg := by
  have e : (v &&& nI 255) = nI (v.toBitVec.toNat &&& 255) := by
    apply Int32.toBitVec_inj.1
    rw [Int32.toBitVec_and]
    apply BitVec.eq_of_toNat_eq
    rw [BitVec.toNat_and]
    show v.toBitVec.toNat &&& 255 = (v.toBitVec.toNat &&& 255) % 2 ^ 32
    have : v.toBitVec.toNat &&& 255 ≤ 255 := Nat.and_le_right
    rw [Nat.mod_eq_of_lt (by omega)]
  have : v.toBitVec.toNat &&& 255 ≤ 255 := Nat.and_le_right
  rw [e, uI_toNat (by omega)]
  exact ⟨by omega, rfl⟩
theorem m_tpL {n : Nat} (hn : n ≤ 1600) {h0 : CH} : ∀ g m h, m ≤ n → n - m < g → h.1 151 3 = nI n → (∀ j, j < m → h.1 153 j = vp_nar .byte (h0.1 152 j)) → (∀ j, h.1 152 j = h0.1 152 j) → ∃ h', f_X12_takeTape_L25 g (nI m) h = some ((), h') ∧ (∀ j, j < n → h'.1 153 j = vp_nar .byte (h0.1 152 j)) ∧ h'.1 151 2 = nI 0 ∧ h'.1 151 7 = nI 0 ∧ Fr (fun a k => a = 153 ∨ (a = 151 ∧ (k = 2 ∨ k = 7))) h h' := by
  intro g
  induction g with
  | zero => intro m h _ h2; omega
  | succ g ih =>
    intro m h h1 h2 h3 h4 h5
    unfold f_X12_takeTape_L25
    rw [h3]
    by_cases c : m < n
    · rw [if_pos (by rw [uI_lt (by omega) (by omega)]; exact c), rdA_nI (by omega) (by omega), wrB_nI (by omega) (by omega), uI_add, h5]
      obtain ⟨h', g1, g2, g3, g4, g5⟩ := ih (m + 1) (sI h 153 m (vp_nar .byte (h0.1 152 m))) (by omega) (by omega) (by rw [sI_ne (by omega)]; exact h3) (fun j hj => by
        by_cases e : j = m
        · rw [e, sI_at]
        · rw [sI_ne (by omega)]; exact h4 j (by omega)) (fun j => by rw [sI_ne (by omega)]; exact h5 j)
      exact ⟨h', g1, g2, g3, g4, (Fr.sI (by omega)).tr g5⟩
    · rw [if_neg (by rw [uI_lt (by omega) (by omega)]; exact c), wrF_eq, wrF_eq]
      exact ⟨_, rfl, fun j hj => by rw [sI_ne (by omega), sI_ne (by omega)]; exact h4 j (by omega), by rw [sI_ne (by omega), sI_at], sI_at, (Fr.sI (by omega)).tr (Fr.sI (by omega))⟩
theorem m_takeTape {n : Nat} (hn : n ≤ 1600) {h : CH} {rl : Bool} {X : Nat → Nat} (h2 : h.1 151 2 = nI n) (hx : ∀ j, j < n → (h.1 152 j &&& nI 255) = nI (X j)) : ∃ h', f_X12_takeTape (bI rl) h = some ((), h') ∧ Mx rl n X h' ∧ h'.1 151 4 = nI 0 ∧ h'.1 151 5 = -1 ∧ h'.1 151 2 = nI 0 ∧ h'.1 151 7 = nI 0 ∧ Fr (fun a k => a = 153 ∨ (a = 151 ∧ (2 ≤ k ∧ k ≤ 5 ∨ k = 7 ∨ k = 11))) h h' := by
  unfold f_X12_takeTape
  rw [wrF_eq, wrF_eq, wrG_b, wrF_eq]
  have hF : Fr (fun a k => a = 151 ∧ (2 ≤ k ∧ k ≤ 5 ∨ k = 11)) h (sI (sI (sI (sI h 151 4 (nI 0)) 151 5 (-1)) 151 11 (bI rl)) 151 3 ((sI (sI (sI h 151 4 (nI 0)) 151 5 (-1)) 151 11 (bI rl)).1 151 2)) := (((Fr.sI (by omega)).tr (Fr.sI (by omega))).tr (Fr.sI (by omega))).tr (Fr.sI (by omega))
  have e2 : (sI (sI (sI h 151 4 (nI 0)) 151 5 (-1)) 151 11 (bI rl)).1 151 2 = nI n := by rw [sI_ne (by omega), sI_ne (by omega), sI_ne (by omega)]; exact h2
  rw [e2] at hF ⊢
  have e3 : (sI (sI (sI (sI h 151 4 (nI 0)) 151 5 (-1)) 151 11 (bI rl)) 151 3 (nI n)).1 151 3 = nI n := sI_at
  have e4 : (sI (sI (sI (sI h 151 4 (nI 0)) 151 5 (-1)) 151 11 (bI rl)) 151 3 (nI n)).1 151 4 = nI 0 := by rw [sI_ne (by omega), sI_ne (by omega), sI_ne (by omega), sI_at]
  have e5 : (sI (sI (sI (sI h 151 4 (nI 0)) 151 5 (-1)) 151 11 (bI rl)) 151 3 (nI n)).1 151 5 = -1 := by rw [sI_ne (by omega), sI_ne (by omega), sI_at]
  have e11 : (sI (sI (sI (sI h 151 4 (nI 0)) 151 5 (-1)) 151 11 (bI rl)) 151 3 (nI n)).1 151 11 = bI rl := by rw [sI_ne (by omega), sI_at]
  generalize sI (sI (sI (sI h 151 4 (nI 0)) 151 5 (-1)) 151 11 (bI rl)) 151 3 (nI n) = g at *
  obtain ⟨h', g1, g2, g3, g4, g5⟩ := m_tpL hn (h0 := g) FU 0 g (Nat.zero_le _) (by show _ < 100000; omega) e3 (fun j hj => by omega) (fun _ => rfl)
  refine ⟨h', g1, ⟨by rw [g5.1 _ _ (by omega)]; exact e3, by rw [g5.1 _ _ (by omega)]; exact e11, fun j hj => ?_⟩, by rw [g5.1 _ _ (by omega)]; exact e4, by rw [g5.1 _ _ (by omega)]; exact e5, g3, g4, (hF.mono (fun a k q => by omega)).tr (g5.mono (fun a k q => by omega))⟩
  rw [g2 j hj, b255, hF.1 _ _ (by omega)]
  exact hx j hj
theorem m_cb2 {rb : Nat} (hr : rb ≤ 1) : ∀ g m h, m ≤ 16 → 16 - m < g → h.1 151 27 = nI rb → (∀ f, f < m → h.1 161 (16 * rb + f) = nI 0) → ∃ h', f_X12_clearBank_L115 g (nI (16 * rb + m)) h = some ((), h') ∧ (∀ f, f < 16 → h'.1 161 (16 * rb + f) = nI 0) ∧ Fr (fun a k => a = 161 ∧ 16 * rb ≤ k ∧ k < 16 * rb + 16) h h' := by
  intro g
  induction g with
  | zero => intro m h _ h2; omega
  | succ g ih =>
    intro m h h1 h2 h3 h4
    unfold f_X12_clearBank_L115
    rw [h3, uI_mul, uI_add]
    by_cases c : m < 16
    · rw [if_pos (by rw [uI_lt (by omega) (by omega)]; omega), wrA_nI (by omega) (by omega), uI_add]
      obtain ⟨h', g1, g2, g3⟩ := ih (m + 1) (sI h 161 (16 * rb + m) (nI 0)) (by omega) (by omega) (by rw [sI_ne (by omega)]; exact h3) (fun f hf => by
        by_cases e : f = m
        · rw [e, sI_at]
        · rw [sI_ne (by omega)]; exact h4 f (by omega))
      exact ⟨h', g1, g2, (Fr.sI (by omega)).tr g3⟩
    · rw [if_neg (by rw [uI_lt (by omega) (by omega)]; omega)]
      exact ⟨h, rfl, fun f hf => h4 f (by omega), Fr.rf⟩
theorem m_cb1 {rb : Nat} (hr : rb ≤ 1) : ∀ g m h, m ≤ 4 → 4 - m < g → h.1 151 27 = nI rb → (∀ p, p < m → h.1 162 (4 * rb + p) = nI 0 ∧ h.1 163 (4 * rb + p) = nI 0 ∧ h.1 166 (4 * rb + p) = nI 0) → ∃ h', f_X12_clearBank_L68 g (nI (4 * rb + m)) h = some ((), h') ∧ (∀ f, f < 16 → h'.1 161 (16 * rb + f) = nI 0) ∧ (∀ p, p < 4 → h'.1 162 (4 * rb + p) = nI 0 ∧ h'.1 163 (4 * rb + p) = nI 0 ∧ h'.1 166 (4 * rb + p) = nI 0) ∧ Fr (fun a k => (a = 161 ∧ 16 * rb ≤ k ∧ k < 16 * rb + 16) ∨ ((a = 162 ∨ a = 163 ∨ a = 166) ∧ 4 * rb ≤ k ∧ k < 4 * rb + 4)) h h' := by
  intro g
  induction g with
  | zero => intro m h _ h2; omega
  | succ g ih =>
    intro m h h1 h2 h3 h4
    unfold f_X12_clearBank_L68
    rw [h3, uI_mul, uI_add]
    by_cases c : m < 4
    · rw [if_pos (by rw [uI_lt (by omega) (by omega)]; omega), wrA_nI (by omega) (by omega), wrA_nI (by omega) (by omega), wrZ_nI (by omega) (by omega), vzb_0, uI_add]
      obtain ⟨h', g1, g2, g3, g4⟩ := ih (m + 1) (sI (sI (sI h 162 (4 * rb + m) (nI 0)) 163 (4 * rb + m) (nI 0)) 166 (4 * rb + m) (nI 0)) (by omega) (by omega) (by rw [sI_ne (by omega), sI_ne (by omega), sI_ne (by omega)]; exact h3) (fun f hf => by
        by_cases e : f = m
        · rw [e]
          exact ⟨by rw [sI_ne (by omega), sI_ne (by omega), sI_at], by rw [sI_ne (by omega), sI_at], sI_at⟩
        · rw [sI_ne (by omega), sI_ne (by omega), sI_ne (by omega), sI_ne (by omega), sI_ne (by omega), sI_ne (by omega), sI_ne (by omega), sI_ne (by omega), sI_ne (by omega)]; exact h4 f (by omega))
      exact ⟨h', g1, g2, g3, (((Fr.sI (by omega)).tr (Fr.sI (by omega))).tr (Fr.sI (by omega))).tr g4⟩
    · rw [if_neg (by rw [uI_lt (by omega) (by omega)]; omega), uI_mul]
      obtain ⟨h', g1, g2, g3⟩ := m_cb2 hr FU 0 h (by omega) (by show _ < 100000; omega) h3 (fun f hf => by omega)
      exact ⟨h', g1, g2, fun p hp => by rw [g3.1 _ _ (by omega), g3.1 _ _ (by omega), g3.1 _ _ (by omega)]; exact h4 p (by omega), g3.mono (fun a k q => Or.inl q)⟩
theorem m_clearBank {rb : Nat} (hr : rb ≤ 1) {h : CH} (h27 : h.1 151 27 = nI rb) : ∃ h', f_X12_clearBank h = some ((), h') ∧ Md rb d0 h' ∧ Fr (fun a k => ((154 ≤ a ∧ a ≤ 157 ∨ a = 164 ∨ a = 165) ∧ k = rb) ∨ (a = 161 ∧ 16 * rb ≤ k ∧ k < 16 * rb + 16) ∨ ((a = 162 ∨ a = 163 ∨ a = 166) ∧ 4 * rb ≤ k ∧ k < 4 * rb + 4)) h h' := by
  unfold f_X12_clearBank
  rw [h27, wrA_nI (by omega) (by omega), sI_ne (by omega), h27, wrA_nI (by omega) (by omega), sI_ne (by omega), sI_ne (by omega), h27, wrA_nI (by omega) (by omega), sI_ne (by omega), sI_ne (by omega), sI_ne (by omega), h27, wrA_nI (by omega) (by omega), sI_ne (by omega), sI_ne (by omega), sI_ne (by omega), sI_ne (by omega), h27, wrZ_nI (by omega) (by omega), sI_ne (by omega), sI_ne (by omega), sI_ne (by omega), sI_ne (by omega), sI_ne (by omega), h27, wrZ_nI (by omega) (by omega), vzb_0, sI_ne (by omega), sI_ne (by omega), sI_ne (by omega), sI_ne (by omega), sI_ne (by omega), sI_ne (by omega), h27]
  have hF : Fr (fun a k => ((154 ≤ a ∧ a ≤ 157 ∨ a = 164 ∨ a = 165) ∧ k = rb)) h (sI (sI (sI (sI (sI (sI h 154 rb (nI 5)) 155 rb (nI 0)) 156 rb (nI 0)) 157 rb (nI 20)) 164 rb (nI 0)) 165 rb (nI 0)) := (((((Fr.sI (by omega)).tr (Fr.sI (by omega))).tr (Fr.sI (by omega))).tr (Fr.sI (by omega))).tr (Fr.sI (by omega))).tr (Fr.sI (by omega))
  have e0 : (sI (sI (sI (sI (sI (sI h 154 rb (nI 5)) 155 rb (nI 0)) 156 rb (nI 0)) 157 rb (nI 20)) 164 rb (nI 0)) 165 rb (nI 0)).1 154 rb = nI 5 := by rw [sI_ne (by omega), sI_ne (by omega), sI_ne (by omega), sI_ne (by omega), sI_ne (by omega), sI_at]
  have e1 : (sI (sI (sI (sI (sI (sI h 154 rb (nI 5)) 155 rb (nI 0)) 156 rb (nI 0)) 157 rb (nI 20)) 164 rb (nI 0)) 165 rb (nI 0)).1 155 rb = nI 0 := by rw [sI_ne (by omega), sI_ne (by omega), sI_ne (by omega), sI_ne (by omega), sI_at]
  have e2 : (sI (sI (sI (sI (sI (sI h 154 rb (nI 5)) 155 rb (nI 0)) 156 rb (nI 0)) 157 rb (nI 20)) 164 rb (nI 0)) 165 rb (nI 0)).1 156 rb = nI 0 := by rw [sI_ne (by omega), sI_ne (by omega), sI_ne (by omega), sI_at]
  have e3 : (sI (sI (sI (sI (sI (sI h 154 rb (nI 5)) 155 rb (nI 0)) 156 rb (nI 0)) 157 rb (nI 20)) 164 rb (nI 0)) 165 rb (nI 0)).1 157 rb = nI 20 := by rw [sI_ne (by omega), sI_ne (by omega), sI_at]
  have e4 : (sI (sI (sI (sI (sI (sI h 154 rb (nI 5)) 155 rb (nI 0)) 156 rb (nI 0)) 157 rb (nI 20)) 164 rb (nI 0)) 165 rb (nI 0)).1 164 rb = nI 0 := by rw [sI_ne (by omega), sI_at]
  have e5 : (sI (sI (sI (sI (sI (sI h 154 rb (nI 5)) 155 rb (nI 0)) 156 rb (nI 0)) 157 rb (nI 20)) 164 rb (nI 0)) 165 rb (nI 0)).1 165 rb = nI 0 := sI_at
  generalize sI (sI (sI (sI (sI (sI h 154 rb (nI 5)) 155 rb (nI 0)) 156 rb (nI 0)) 157 rb (nI 20)) 164 rb (nI 0)) 165 rb (nI 0) = g at *
  have g27 : g.1 151 27 = nI rb := by rw [hF.1 _ _ (by omega)]; exact h27
  rw [uI_mul]
  obtain ⟨h', g1, g2, g3, g4⟩ := m_cb1 hr FU 0 g (by omega) (by show _ < 100000; omega) g27 (fun f hf => by omega)
  refine ⟨h', g1, ⟨hr, ?_, ?_, ?_, ?_, ?_, fun f hf => absurd hf (Nat.not_lt_zero f), fun f hf => absurd hf (Nat.not_lt_zero f), fun f hf => absurd hf (Nat.not_lt_zero f), g2, fun p hp => (g3 p hp).1, fun p hp => (g3 p hp).2.1, ?_, ?_, fun p hp => ?_, fun f hf => absurd hf (Nat.not_lt_zero f)⟩, (hF.mono (fun a k q => Or.inl q)).tr (g4.mono (fun a k q => Or.inr q))⟩
  · rw [g4.1 _ _ (by omega)]; exact g27
  · rw [g4.1 _ _ (by omega)]; exact e0
  · rw [g4.1 _ _ (by omega)]; exact e3
  · rw [g4.1 _ _ (by omega)]; exact e1
  · rw [g4.1 _ _ (by omega)]; exact e2
  · rw [g4.1 _ _ (by omega)]; exact e4
  · rw [g4.1 _ _ (by omega)]; exact e5
  · show _ = bI ((0:Nat).testBit p)
    rw [(g3 p hp).2.2, Nat.zero_testBit]; rfl
