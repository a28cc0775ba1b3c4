/-! image, back: the reference -/
theorem m_imgL {N j : Nat} {p : Pp} (hN : pN p = N) (hN4 : N ≤ 40) (hj : j < 3) : ∀ h : CH, MP p h → ∃ h', f_X12_image_L33 (nI j) FU (nI 0) h = some (nI N, h') ∧ MP p h' ∧ (∀ i, 0 ≤ i → i < N → h'.1 187 (40 * j + i) = pfa p i ∧ h'.1 188 (40 * j + i) = pot p i ∧ h'.1 189 (40 * j + i) = psh p i ∧ h'.1 190 (40 * j + i) = ppl p i ∧ h'.1 191 (40 * j + i) = pto p i ∧ h'.1 192 (40 * j + i) = pun p i) ∧ Fr (fun a k => 187 ≤ a ∧ a ≤ 192 ∧ 40 * j + 0 ≤ k ∧ k < 40 * j + 40) h h' := by
  refine loop_FU (fun n k => ∀ h : CH, MP p h → ∃ h', f_X12_image_L33 (nI j) n (nI k) h = some (nI N, h') ∧ MP p h' ∧ (∀ i, k ≤ i → i < N → h'.1 187 (40 * j + i) = pfa p i ∧ h'.1 188 (40 * j + i) = pot p i ∧ h'.1 189 (40 * j + i) = psh p i ∧ h'.1 190 (40 * j + i) = ppl p i ∧ h'.1 191 (40 * j + i) = pto p i ∧ h'.1 192 (40 * j + i) = pun p i) ∧ Fr (fun a l => 187 ≤ a ∧ a ≤ 192 ∧ 40 * j + k ≤ l ∧ l < 40 * j + 40) h h') N (by omega) ?_ ?_
  · intro n k hk ih h hP
    have hP0 := hP
    obtain ⟨c1, c2, c3⟩ := hP
    obtain ⟨d1, d2, d3, d4, d5, d6⟩ := c3 k (by omega)
    unfold f_X12_image_L33
    rw [c1, hN]
    have hk40 : k < 40 := by omega
    have hq : 40 * j + k < 120 := by omega
    simp (disch := omega) only [clp_some, cl_some, jn_eq, uI_add, uI_mul, uI_lt, uI_lt0, uI_0lt, uI_eq0, uI_inj, uI_ne1, n1_ne, n1_lt, uI_lt1, rdA_nI, rdQ_nI, rdL_nI, wrA_nI, wrL_nI, wrF_eq, wrJ_eq, dvd_nI, ite_true, ite_false, if_true, if_false, bI_t, bI_f, bI_0, decide_true, decide_false, Nat.one_ne_zero, Nat.reduceEqDiff, Nat.reduceLT, Nat.reduceLeDiff, Nat.reduceAdd, Nat.reduceMul, Nat.reduceSub, Nat.reduceDiv, hk, hk40, hq, sI_1, false_and, d1, d2, d3, d4, d5, d6]
    generalize hH : sI (sI (sI (sI (sI (sI h 187 (40 * j + k) (pfa p k)) 188 (40 * j + k) (pot p k)) 189 (40 * j + k) (psh p k)) 190 (40 * j + k) (ppl p k)) 191 (40 * j + k) (pto p k)) 192 (40 * j + k) (pun p k) = H
    have e : ∀ a l, H.1 a l = if a = 192 ∧ l = 40 * j + k then pun p k else if a = 191 ∧ l = 40 * j + k then pto p k else if a = 190 ∧ l = 40 * j + k then ppl p k else if a = 189 ∧ l = 40 * j + k then psh p k else if a = 188 ∧ l = 40 * j + k then pot p k else if a = 187 ∧ l = 40 * j + k then pfa p k else h.1 a l := by
      intro a l; rw [← hH]; rfl
    have fr : Fr (fun a l => 187 ≤ a ∧ a ≤ 192 ∧ l = 40 * j + k) h H := by
      refine ⟨fun a l hx => ?_, by rw [← hH]; rfl⟩
      rw [e, if_neg (by omega), if_neg (by omega), if_neg (by omega), if_neg (by omega), if_neg (by omega), if_neg (by omega)]
    obtain ⟨h', e1, e2, e3, e4⟩ := ih H (hP0.fr fr (fun a k h1 h2 h3 => by omega) (by omega) (by omega))
    refine ⟨h', e1, e2, fun i h1 h2 => ?_, (fr.mono (fun a l hx => by omega)).tr (e4.mono (fun a l hx => by omega))⟩
    by_cases z : i = k
    · subst z
      have g : ∀ a, h'.1 a (40 * j + i) = H.1 a (40 * j + i) := fun a => e4.1 _ _ (by omega)
      simp only [g, e]
      simp
    · exact e3 i (by omega) h2
  · intro n h hP
    unfold f_X12_image_L33
    rw [hP.1, hN]
    refine ⟨h, ?_, hP, fun i h1 h2 => absurd h2 (by omega), Fr.rf⟩
    simp (disch := omega) only [clp_some, cl_some, jn_eq, uI_add, uI_mul, uI_lt, uI_lt0, uI_0lt, uI_eq0, uI_inj, uI_ne1, n1_ne, n1_lt, uI_lt1, rdA_nI, rdQ_nI, rdL_nI, wrA_nI, wrL_nI, wrF_eq, wrJ_eq, dvd_nI, ite_true, ite_false, if_true, if_false, bI_t, bI_f, bI_0, decide_true, decide_false, Nat.one_ne_zero, Nat.reduceEqDiff, Nat.reduceLT, Nat.reduceLeDiff, Nat.reduceAdd, Nat.reduceMul, Nat.reduceSub, Nat.reduceDiv, Nat.lt_irrefl]
theorem m_image {F : Nat} {p : Pp} {bx : Bxs} {h : CH} (x : Int32) (hC : MP p h) (hB : MBx bx h) (hN : pN p ≤ 40) (hV : VB F bx) : (isF 3 x = true → ∃ h', f_X12_image x h = some (nI (pN p), h') ∧ MBx (bxS bx x.toNatClampNeg p) h' ∧ Fr SBm h h') ∧ (isF 3 x = false → f_X12_image x h = some (-1, h)) := by
  unfold f_X12_image
  rw [m_isIn, clp_some, show (nI 2) = nI 3 - nI 1 from rfl, inR_F (by omega), ifB]
  cases hx : isF 3 x
  · exact ⟨fun q => absurd q (by simp), fun _ => rfl⟩
  refine ⟨fun _ => ?_, fun q => absurd q (by simp)⟩
  obtain ⟨k, hk, rfl⟩ := isF_of hx (by omega)
  rw [uI_toNat (by omega)]
  simp only [if_true]
  rw [wrA_nI (by omega) (by omega), wrA_nI (by omega) (by omega)]
  have e1 : (sI h 185 k (h.1 151 60)).1 151 61 = nI (pT p) := by rw [sI_1, if_neg (by omega)]; exact hC.2.1
  rw [e1, hC.1]
  generalize hH : sI (sI h 185 k (nI (pN p))) 186 k (nI (pT p)) = H
  have e : ∀ a j, H.1 a j = if a = 186 ∧ j = k then nI (pT p) else if a = 185 ∧ j = k then nI (pN p) else h.1 a j := by intro a j; rw [← hH]; rfl
  have fr : Fr (fun a j => (a = 185 ∨ a = 186) ∧ j = k) h H := by
    refine ⟨fun a l hx => ?_, by rw [← hH]; rfl⟩
    rw [e, if_neg (by omega), if_neg (by omega)]
  obtain ⟨h', f1, f2, f3, f4⟩ := m_imgL (p := p) rfl hN hk H (hC.fr fr (fun a k h1 h2 h3 => by omega) (by omega) (by omega))
  have fr2 : Fr SBm h h' := (fr.mono (fun a l hx => by unfold SBm; omega)).tr (f4.mono (fun a l hx => by unfold SBm; omega))
  refine ⟨h', f1, fun i hi => ?_, fr2⟩
  unfold bxS
  by_cases z : i = k
  · rw [if_pos z]
    subst z
    refine ⟨?_, ?_, fun l hl => f3 l (by omega) hl⟩
    · rw [f4.1 _ _ (by omega), e]; simp
    · rw [f4.1 _ _ (by omega), e]; simp
  · rw [if_neg z]
    exact ((hB i hi).fr fr (by omega) (by omega) (fun a k h1 h2 h3 h4 h5 => by omega) (hV.n hi)).fr f4 (by omega) (by omega) (fun a k h1 h2 h3 h4 h5 => by omega) (hV.n hi)
theorem m_bakL {N j : Nat} {p : Pp} (hN : pN p = N) (hN4 : N ≤ 40) (hj : j < 3) : ∀ h : CH, h.1 151 60 = nI N → (∀ i, i < N → h.1 187 (40 * j + i) = pfa p i ∧ h.1 188 (40 * j + i) = pot p i ∧ h.1 189 (40 * j + i) = psh p i ∧ h.1 190 (40 * j + i) = ppl p i ∧ h.1 191 (40 * j + i) = pto p i ∧ h.1 192 (40 * j + i) = pun p i) → ∃ h', f_X12_back_L42 (nI j) FU (nI 0) h = some (nI N, h') ∧ (∀ i, 0 ≤ i → i < N → h'.1 178 i = pfa p i ∧ h'.1 179 i = pot p i ∧ h'.1 180 i = psh p i ∧ h'.1 181 i = ppl p i ∧ h'.1 182 i = pto p i ∧ h'.1 183 i = pun p i) ∧ Fr (fun a k => 178 ≤ a ∧ a ≤ 183 ∧ 0 ≤ k) h h' := by
  refine loop_FU (fun n k => ∀ h : CH, h.1 151 60 = nI N → (∀ i, i < N → h.1 187 (40 * j + i) = pfa p i ∧ h.1 188 (40 * j + i) = pot p i ∧ h.1 189 (40 * j + i) = psh p i ∧ h.1 190 (40 * j + i) = ppl p i ∧ h.1 191 (40 * j + i) = pto p i ∧ h.1 192 (40 * j + i) = pun p i) → ∃ h', f_X12_back_L42 (nI j) n (nI k) h = some (nI N, h') ∧ (∀ i, k ≤ i → i < N → h'.1 178 i = pfa p i ∧ h'.1 179 i = pot p i ∧ h'.1 180 i = psh p i ∧ h'.1 181 i = ppl p i ∧ h'.1 182 i = pto p i ∧ h'.1 183 i = pun p i) ∧ Fr (fun a l => 178 ≤ a ∧ a ≤ 183 ∧ k ≤ l) h h') N (by omega) ?_ ?_
  · intro n k hk ih h c1 c3
    obtain ⟨d1, d2, d3, d4, d5, d6⟩ := c3 k (by omega)
    unfold f_X12_back_L42
    rw [c1]
    have hk40 : k < 40 := by omega
    have hq : 40 * j + k < 120 := by omega
    simp (disch := omega) only [clp_some, cl_some, jn_eq, uI_add, uI_mul, uI_lt, uI_lt0, uI_0lt, uI_eq0, uI_inj, uI_ne1, n1_ne, n1_lt, uI_lt1, rdA_nI, rdQ_nI, rdL_nI, wrA_nI, wrL_nI, wrF_eq, wrJ_eq, dvd_nI, ite_true, ite_false, if_true, if_false, bI_t, bI_f, bI_0, decide_true, decide_false, Nat.one_ne_zero, Nat.reduceEqDiff, Nat.reduceLT, Nat.reduceLeDiff, Nat.reduceAdd, Nat.reduceMul, Nat.reduceSub, Nat.reduceDiv, hk, hk40, hq, sI_1, false_and, d1, d2, d3, d4, d5, d6]
    generalize hH : sI (sI (sI (sI (sI (sI h 178 k (pfa p k)) 179 k (pot p k)) 180 k (psh p k)) 181 k (ppl p k)) 182 k (pto p k)) 183 k (pun p k) = H
    have e : ∀ a l, H.1 a l = if a = 183 ∧ l = k then pun p k else if a = 182 ∧ l = k then pto p k else if a = 181 ∧ l = k then ppl p k else if a = 180 ∧ l = k then psh p k else if a = 179 ∧ l = k then pot p k else if a = 178 ∧ l = k then pfa p k else h.1 a l := by
      intro a l; rw [← hH]; rfl
    have fr : Fr (fun a l => 178 ≤ a ∧ a ≤ 183 ∧ l = k) h H := by
      refine ⟨fun a l hx => ?_, by rw [← hH]; rfl⟩
      rw [e, if_neg (by omega), if_neg (by omega), if_neg (by omega), if_neg (by omega), if_neg (by omega), if_neg (by omega)]
    obtain ⟨h', e1, e3, e4⟩ := ih H (by rw [fr.1 _ _ (by omega)]; exact c1) (fun i hi => by
      have g : ∀ a, 187 ≤ a → H.1 a (40 * j + i) = h.1 a (40 * j + i) := fun a ha => fr.1 _ _ (by omega)
      simp (disch := omega) only [g]
      exact c3 i hi)
    refine ⟨h', e1, fun i h1 h2 => ?_, (fr.mono (fun a l hx => by omega)).tr (e4.mono (fun a l hx => by omega))⟩
    by_cases z : i = k
    · subst z
      have g : ∀ a, h'.1 a i = H.1 a i := fun a => e4.1 _ _ (by omega)
      simp only [g, e]
      simp
    · exact e3 i (by omega) h2
  · intro n h c1 c3
    unfold f_X12_back_L42
    rw [c1]
    refine ⟨h, ?_, fun i h1 h2 => absurd h2 (by omega), Fr.rf⟩
    simp (disch := omega) only [clp_some, cl_some, jn_eq, uI_add, uI_mul, uI_lt, uI_lt0, uI_0lt, uI_eq0, uI_inj, uI_ne1, n1_ne, n1_lt, uI_lt1, rdA_nI, rdQ_nI, rdL_nI, wrA_nI, wrL_nI, wrF_eq, wrJ_eq, dvd_nI, ite_true, ite_false, if_true, if_false, bI_t, bI_f, bI_0, decide_true, decide_false, Nat.one_ne_zero, Nat.reduceEqDiff, Nat.reduceLT, Nat.reduceLeDiff, Nat.reduceAdd, Nat.reduceMul, Nat.reduceSub, Nat.reduceDiv, Nat.lt_irrefl]
theorem m_back {F : Nat} {bx : Bxs} {h : CH} (x : Int32) (hB : MBx bx h) (hV : VB F bx) : (∀ p, bxG bx x = some p → ∃ h', f_X12_back x h = some (nI (pN p), h') ∧ MP p h' ∧ Fr SPm h h') ∧ (bxG bx x = none → f_X12_back x h = some (-1, h)) := by
  unfold f_X12_back bxG
  rw [m_isIn, clp_some, show (nI 2) = nI 3 - nI 1 from rfl, inR_F (by omega), ifB]
  cases hx : isF 3 x
  · exact ⟨fun p q => absurd q (by simp), fun _ => rfl⟩
  obtain ⟨k, hk, rfl⟩ := isF_of hx (by omega)
  rw [uI_toNat (by omega)]
  simp only [if_true]
  have b := hB k hk
  have v := hV.n hk
  rw [rdA_nI (by omega) (by omega), rdA_nI (by omega) (by omega)]
  refine ⟨fun p e => ?_, fun e => ?_⟩
  · rw [e] at b v
    obtain ⟨b1, b2, b3⟩ := b
    have v : pN p ≤ 40 := v
    rw [b1]
    simp only [uI_lt0 (show pN p < 2147483648 by omega), if_false]
    rw [wrF_eq, rdA_nI (by omega) (by omega), wrF_eq]
    have e1 : (sI h 151 60 (nI (pN p))).1 186 k = nI (pT p) := by rw [sI_1, if_neg (by omega)]; exact b2
    rw [e1]
    generalize hH : sI (sI h 151 60 (nI (pN p))) 151 61 (nI (pT p)) = H
    have e : ∀ a j, H.1 a j = if a = 151 ∧ j = 61 then nI (pT p) else if a = 151 ∧ j = 60 then nI (pN p) else h.1 a j := by intro a j; rw [← hH]; rfl
    have fr : Fr SPm h H := by
      refine ⟨fun a l hx => ?_, by rw [← hH]; rfl⟩
      unfold SPm at hx
      rw [e, if_neg (by omega), if_neg (by omega)]
    obtain ⟨h', f1, f3, f4⟩ := m_bakL (p := p) rfl v hk H (by rw [e]; simp) (fun i hi => by
      have g : ∀ a, 187 ≤ a → H.1 a (40 * k + i) = h.1 a (40 * k + i) := fun a ha => fr.1 _ _ (by unfold SPm; omega)
      simp (disch := omega) only [g]
      exact b3 i hi)
    refine ⟨h', f1, ⟨?_, ?_, fun i hi => f3 i (by omega) hi⟩, fr.tr (f4.mono (fun a l hx => by unfold SPm; omega))⟩
    · rw [f4.1 _ _ (by omega), e]; simp
    · rw [f4.1 _ _ (by omega), e]; simp
  · rw [e] at b
    have b1 : h.1 185 k = -1 := b
    rw [b1, if_pos (by decide)]
