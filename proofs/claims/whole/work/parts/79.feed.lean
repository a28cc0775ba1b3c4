/-! feed: the reference -/
def xTQ (c j : Nat) : Prop := c = 152 ∨ (c = 151 ∧ j = 2)
theorem and3 {i : Nat} (hi : i < 20) : (nI i &&& nI 3) = nI (i % 4) := by
  have : ∀ k : Fin 20, (nI k.1 &&& nI 3) = nI (k.1 % 4) := by decide
  exact this ⟨i, hi⟩
theorem m_feed {a b c d e : Int32} {h0 : CH} {n : Nat} (hn : n ≤ 1600) (h1 : h0.1 151 2 = nI n) : (n + 20 ≤ 1600 → ∃ h', f_X12_feed a b c d e h0 = some (nI (n + 20), h') ∧ h'.1 151 2 = nI (n + 20) ∧ (∀ j, h'.1 152 j = if n ≤ j ∧ j < n + 20 then fdB a b c d e (j - n) else h0.1 152 j) ∧ Fr xTQ h0 h') ∧ (1600 < n + 20 → f_X12_feed a b c d e h0 = some (-1, h0)) := by
  unfold f_X12_feed
  rw [h1, uI_add]
  have hx : (nI 1600 < nI (n + 20)) = (1600 < n + 20) := uI_lt (by omega) (by omega)
  simp only [hx]
  refine ⟨fun hl => ?_, fun hl => by rw [if_pos hl]⟩
  rw [if_neg (by omega)]
  have G := loop_FU (fun m k => ∀ h, Fr xTQ h0 h → h.1 151 2 = nI n → (∀ j, h.1 152 j = if n ≤ j ∧ j < n + k then fdB a b c d e (j - n) else h0.1 152 j) → ∃ h', f_X12_feed_L18 a b c d e m (nI k) h = some (nI (n + 20), h') ∧ h'.1 151 2 = nI (n + 20) ∧ (∀ j, h'.1 152 j = if n ≤ j ∧ j < n + 20 then fdB a b c d e (j - n) else h0.1 152 j) ∧ Fr xTQ h0 h') 20 (by omega) ?_ ?_
  · exact G h0 Fr.rf h1 (fun j => by rw [if_neg (by omega)])
  · intro m k hk ih h hF h2 h3
    unfold f_X12_feed_L18
    rw [if_pos (by rw [uI_lt (by omega) (by omega)]; exact hk), jn_eq, h2, and3 hk, uI_mul, uI_sub (by omega), uI_add, uI_add]
    have x4 : (nI k < nI 4) = (k < 4) := uI_lt (by omega) (by omega)
    have x8 : (nI k < nI 8) = (k < 8) := uI_lt (by omega) (by omega)
    have x12 : (nI k < nI 12) = (k < 12) := uI_lt (by omega) (by omega)
    have x16 : (nI k < nI 16) = (k < 16) := uI_lt (by omega) (by omega)
    simp only [x4, x8, x12, x16]
    have st : ∀ x : Int32, x = (if k < 4 then a else if k < 8 then b else if k < 12 then c else if k < 16 then d else e) → ∃ h', (wrB h 152 1620 (nI (n + k)) ((x >>> (nI (24 - 8 * (k % 4)) &&& 31)).toInt8.toInt32) fun h_5 => f_X12_feed_L18 a b c d e m (nI (k + 1)) h_5) = some (nI (n + 20), h') ∧ h'.1 151 2 = nI (n + 20) ∧ (∀ j, h'.1 152 j = if n ≤ j ∧ j < n + 20 then fdB a b c d e (j - n) else h0.1 152 j) ∧ Fr xTQ h0 h' := by
      intro x hxx
      rw [wrB_nI (by omega) (by omega)]
      refine ih _ (hF.tr (Fr.sI (Or.inl rfl))) (by rw [sI_1, if_neg (by omega)]; exact h2) (fun j => ?_)
      rw [sI_1]
      by_cases z : j = n + k
      · rw [if_pos ⟨rfl, z⟩, if_pos (by omega), show j - n = k by omega]
        unfold fdB
        rw [← hxx]
        rfl
      · rw [if_neg (fun q => z q.2), h3]
        by_cases y : n ≤ j ∧ j < n + k
        · rw [if_pos y, if_pos (by omega)]
        · rw [if_neg y, if_neg (by omega)]
    by_cases y1 : k < 4
    · rw [if_pos y1]; exact st a (by rw [if_pos y1])
    rw [if_neg y1]
    by_cases y2 : k < 8
    · rw [if_pos y2]; exact st b (by rw [if_neg y1, if_pos y2])
    rw [if_neg y2]
    by_cases y3 : k < 12
    · rw [if_pos y3]; exact st c (by rw [if_neg y1, if_neg y2, if_pos y3])
    rw [if_neg y3]
    by_cases y4 : k < 16
    · rw [if_pos y4]; exact st d (by rw [if_neg y1, if_neg y2, if_neg y3, if_pos y4])
    rw [if_neg y4]; exact st e (by rw [if_neg y1, if_neg y2, if_neg y3, if_neg y4])
  · intro m h hF h2 h3
    unfold f_X12_feed_L18
    rw [if_neg (by rw [uI_lt (by omega) (by omega)]; omega), h2, uI_add, wrF_eq]
    refine ⟨_, rfl, ?_, fun j => ?_, hF.tr (Fr.sI (Or.inr ⟨rfl, rfl⟩))⟩
    · rw [sI_1, if_pos ⟨rfl, rfl⟩]
    · rw [sI_1, if_neg (by omega)]; exact h3 j
