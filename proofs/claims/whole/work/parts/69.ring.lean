/-! rings: the reference's ring -/
theorem m_ring46 {bk : Nat} {t : Tn} (hV : VT t) (hS : VS t) {p : Pp} (hP : VP (tF t) p) {k : Int32} {h0 : CH} (hM : MT bk t h0) (hC : MP p h0) {a : Nat} (ha : a < pN p) (hca : gC p k a = true) (K : Int32 → Int32 → CH → Option (Int32 × CH)) : ∀ n l, l ≤ pN p → pN p < n + l → ∀ f h (x4 : Int32), RI t p k h0 a f h → ∃ f' h' x4', f_X12_layRing_L46 k K n (nI (cz f (pN p))) x4 (nI l) h = K (nI (cz f' (pN p))) x4' h' ∧ RI t p k h0 a f' h' ∧ ((f' = f ∧ x4' = x4 ∧ ∀ j, l ≤ j → j < pN p → f j = false → gC p k j = true → ∀ i, i < pN p → f i = true → hgB t p j i = false) ∨ (x4' = nI 1 ∧ cz f (pN p) < cz f' (pN p))) := by
  have hN := hP.1
  refine loop_up (fun n l => ∀ f h (x4 : Int32), RI t p k h0 a f h → ∃ f' h' x4', f_X12_layRing_L46 k K n (nI (cz f (pN p))) x4 (nI l) h = K (nI (cz f' (pN p))) x4' h' ∧ RI t p k h0 a f' h' ∧ ((f' = f ∧ x4' = x4 ∧ ∀ j, l ≤ j → j < pN p → f j = false → gC p k j = true → ∀ i, i < pN p → f i = true → hgB t p j i = false) ∨ (x4' = nI 1 ∧ cz f (pN p) < cz f' (pN p)))) (pN p) ?_ ?_
  · intro n l hl ih f h x4 hI
    have hC' : MP p h := hC.fr hI.2.1 (fun a k h1 h2 h3 => by omega) (by omega) (by omega)
    unfold f_X12_layRing_L46
    rw [hC'.1, if_pos (by rw [uI_lt (by omega) (by omega)]; exact hl), uI_add]
    obtain ⟨f1, h1, x1, e1, e2, e3⟩ := m_ring58 hV hS hP hM hC ha hca hl (fun (x3_12 : Int32) (x4_13 : Int32) (h_14 : CH) => f_X12_layRing_L46 k K n (x3_12) (x4_13) (nI (l + 1)) h_14) FU 0 (by omega) (by unfold FU; omega) f h x4 hI
    rw [← uI_z] at e1
    rw [show nI 0 = 0 from rfl, e1]
    obtain ⟨f2, h2, x2, g1, g2, g3⟩ := ih f1 h1 x1 e2
    refine ⟨f2, h2, x2, g1, g2, ?_⟩
    rcases e3 with ⟨y1, y2, y3⟩ | ⟨y1, y2⟩
    · rcases g3 with ⟨z1, z2, z3⟩ | ⟨z1, z2⟩
      · refine Or.inl ⟨z1.trans y1, z2.trans y2, fun j j1 j2 j3 j4 i i1 i2 => ?_⟩
        by_cases e : j = l
        · rw [e] at j3 j4 ⊢; exact y3 j3 j4 i (by omega) i1 i2
        · rw [y1] at z3; exact z3 j (by omega) j2 j3 j4 i i1 i2
      · exact Or.inr ⟨z1, by rw [← y1]; exact z2⟩
    · rcases g3 with ⟨z1, z2, z3⟩ | ⟨z1, z2⟩
      · exact Or.inr ⟨z2.trans y1, by rw [z1]; exact y2⟩
      · exact Or.inr ⟨z1, by omega⟩
  · intro n f h x4 hI
    have hC' : MP p h := hC.fr hI.2.1 (fun a k h1 h2 h3 => by omega) (by omega) (by omega)
    unfold f_X12_layRing_L46
    rw [hC'.1, if_neg (by rw [uI_lt (by omega) (by omega)]; omega)]
    exact ⟨f, h, x4, rfl, hI, Or.inl ⟨rfl, rfl, fun j q1 q2 => by omega⟩⟩
noncomputable def rkN (t : Tn) (p : Pp) (k : Int32) (a : Nat) : Nat → Bool := rk (pN p) (gC p k) (hgB t p) a
theorem m_ring35 {bk : Nat} {t : Tn} (hV : VT t) (hS : VS t) {p : Pp} (hP : VP (tF t) p) {k : Int32} {h0 : CH} (hM : MT bk t h0) (hC : MP p h0) {a : Nat} (ha : a < pN p) (hca : gC p k a = true) : ∀ r n f h, pN p ≤ cz f (pN p) + r → r + 1 < n → RI t p k h0 a f h → ∃ h', f_X12_layRing_L35 k n (nI (cz f (pN p))) (nI 1) h = some (nI (cz (rkN t p k a) (pN p)), h') ∧ RI t p k h0 a (rkN t p k a) h' := by
  have hN := hP.1
  intro r
  induction r with
  | zero =>
    intro n f h hr hn hI
    obtain ⟨n, rfl⟩ : ∃ z, n = z + 2 := ⟨n - 2, by omega⟩
    unfold f_X12_layRing_L35
    rw [if_neg (by decide)]
    obtain ⟨f1, h1, x1, e1, e2, e3⟩ := m_ring46 hV hS hP hM hC ha hca (fun (x3_8 : Int32) (x4_9 : Int32) (h_10 : CH) => f_X12_layRing_L35 k (n + 1) (x3_8) (x4_9) h_10) FU 0 (by omega) (by unfold FU; omega) f h (nI 0) hI
    rw [e1]
    rcases e3 with ⟨y1, y2, y3⟩ | ⟨y1, y2⟩
    · rw [y1] at e2 ⊢
      rw [y2]
      unfold f_X12_layRing_L35
      rw [if_pos (show nI 0 = 0 from rfl)]
      have ef : f = rkN t p k a := by
        funext i
        have h1 : f i = true ↔ rkN t p k a i = true := by
          refine ⟨fun q => rk_iff.2 (e2.2.2.1 i q), fun q => (rk_iff.1 q) (fun i => f i = true) e2.2.2.2 (fun i j h1 h2 h3 h4 h5 => ?_)⟩
          cases hj : f j
          · have := y3 j (by omega) h3 hj h4 i h2 h1
            rw [hgB_sym hV hS hP h3 h2, h5] at this; cases this
          · rfl
        cases z1 : f i <;> cases z2 : rkN t p k a i
        · rfl
        · rw [h1.2 z2] at z1; cases z1
        · rw [h1.1 z1] at z2; cases z2
        · rfl
      rw [ef] at e2 ⊢
      exact ⟨h1, rfl, e2⟩
    · have := cz_le f1 (pN p); omega
  | succ r ihr =>
    intro n f h hr hn hI
    obtain ⟨n, rfl⟩ : ∃ z, n = z + 2 := ⟨n - 2, by omega⟩
    unfold f_X12_layRing_L35
    rw [if_neg (by decide)]
    obtain ⟨f1, h1, x1, e1, e2, e3⟩ := m_ring46 hV hS hP hM hC ha hca (fun (x3_8 : Int32) (x4_9 : Int32) (h_10 : CH) => f_X12_layRing_L35 k (n + 1) (x3_8) (x4_9) h_10) FU 0 (by omega) (by unfold FU; omega) f h (nI 0) hI
    rw [e1]
    rcases e3 with ⟨y1, y2, y3⟩ | ⟨y1, y2⟩
    · rw [y1] at e2 ⊢
      rw [y2]
      unfold f_X12_layRing_L35
      rw [if_pos (show nI 0 = 0 from rfl)]
      have ef : f = rkN t p k a := by
        funext i
        have h1 : f i = true ↔ rkN t p k a i = true := by
          refine ⟨fun q => rk_iff.2 (e2.2.2.1 i q), fun q => (rk_iff.1 q) (fun i => f i = true) e2.2.2.2 (fun i j h1 h2 h3 h4 h5 => ?_)⟩
          cases hj : f j
          · have := y3 j (by omega) h3 hj h4 i h2 h1
            rw [hgB_sym hV hS hP h3 h2, h5] at this; cases this
          · rfl
        cases z1 : f i <;> cases z2 : rkN t p k a i
        · rfl
        · rw [h1.2 z2] at z1; cases z1
        · rw [h1.1 z1] at z2; cases z2
        · rfl
      rw [ef] at e2 ⊢
      exact ⟨h1, rfl, e2⟩
    · rw [y1]
      exact ihr (n + 1) f1 h1 (by omega) (by omega) e2
theorem m_layRing {bk : Nat} {t : Tn} (hV : VT t) (hS : VS t) {p : Pp} (hP : VP (tF t) p) {k : Int32} {h0 : CH} (hM : MT bk t h0) (hC : MP p h0) {a : Nat} (ha : a < pN p) (hca : gC p k a = true) : ∃ h', f_X12_layRing (nI a) k h0 = some (nI (cz (rkN t p k a) (pN p)), h') ∧ RI t p k h0 a (rkN t p k a) h' := by
  have hN := hP.1
  unfold f_X12_layRing
  have G := loop_FU (fun n l => ∀ h, Fr (fun c _ => c = 184) h0 h → (∀ i, i < l → h.1 184 i = bI (decide (i = a))) → ∃ h', f_X12_layRing_L2 (nI a) k n (nI l) h = some (nI (cz (rkN t p k a) (pN p)), h') ∧ RI t p k h0 a (rkN t p k a) h') 40 (by omega) ?_ ?_
  · exact G h0 Fr.rf (fun i hi => by omega)
  · intro n l hl ih h hF hm
    unfold f_X12_layRing_L2
    rw [if_pos (by rw [uI_lt (by omega) (by omega)]; exact hl), jn_eq]
    simp only [uI_inj (show l < 2147483648 by omega) (show a < 2147483648 by omega), uI_add]
    have st : ∀ v : Int32, v = bI (decide (l = a)) → ∃ h', f_X12_layRing_L2 (nI a) k n (nI (l + 1)) (sI h 184 l v) = some (nI (cz (rkN t p k a) (pN p)), h') ∧ RI t p k h0 a (rkN t p k a) h' := by
      intro v hv
      refine ih _ (hF.tr (Fr.sI rfl)) (fun i hi => ?_)
      rw [sI_1]
      by_cases e : i = l
      · rw [if_pos ⟨rfl, e⟩, e]; exact hv
      · rw [if_neg (fun q => e q.2)]; exact hm i (by omega)
    by_cases e : l = a
    · rw [if_pos e, wrZ_nI hl (by omega), vz_1]
      exact st _ (by simp [e, bI])
    · rw [if_neg e, wrZ_nI hl (by omega), vz_0]
      exact st _ (by simp [e, bI])
  · intro n h hF hm
    unfold f_X12_layRing_L2
    rw [if_neg (by rw [uI_lt (by omega) (by omega)]; omega)]
    have e1 := cz_1 a (pN p) ha
    have := m_ring35 hV hS hP hM hC ha hca (pN p) FU (fun i => decide (i = a)) h (by omega) (by unfold FU; omega) ⟨hm, hF, fun i hi => by rw [of_decide_eq_true hi]; exact Rc.rf a, by simp⟩
    rw [e1] at this
    exact this
