/-! behind: the reference's answer -/
def xTD (c j : Nat) : Prop := c = 176 ∨ (c = 151 ∧ j = 63)
theorem m_isToldL {bk : Nat} {t : Tn} (hV : VT t) {p : Pp} (hP : VP (tF t) p) {i : Nat} (hi : i < pN p) {c m : Nat} (hm : m < 100000) (hc : c < tF t) (h0 : CH) (hM : MT bk t h0) (hC : MP p h0) (h2 : ∀ j, j < tP t → h0.1 177 j = qU t (qP p i) j) (h62 : h0.1 151 62 = nI c) : PO xTD h0 (f_X12_isTold_L17 (nI i) (nI m) FU (nI 0) h0) (bI (su t (qP p i) c m (tF t) 0)) := by
  have v3 := hV.2.2.1
  have hN := hP.1
  obtain ⟨hQ, ea, eb, es⟩ := VQ_qP hV hP hi
  have q1 := hQ.1
  have own := (qD_nI hV hQ hQ.1 (show 10 ≤ 10 by omega)).2
  have G := loop_FU (fun n k => k ≤ tF t → ∀ h : CH, Fr xTD h0 h → PO xTD h0 (f_X12_isTold_L17 (nI i) (nI m) n (nI k) h) (bI (su t (qP p i) c m (tF t - k) k))) (tF t) (by omega) ?_ ?_
  · exact G (by omega) h0 Fr.rf
  · intro n k hk ih _ h hF
    have hM' : MT bk t h := hM.fr hF (fun a k h1 h2 h3 => by unfold xTD at h3; omega) (by unfold xTD; omega)
    have hC' : MP p h := hC.fr hF (fun a k h1 h2 h3 => by unfold xTD at h3; omega) (by unfold xTD; omega) (by unfold xTD; omega)
    have h2' : ∀ j, j < tP t → h.1 177 j = qU t (qP p i) j := fun j hj => by rw [hF.1 _ _ (by unfold xTD; omega)]; exact h2 j hj
    have n2 : h.1 151 62 = nI c := by rw [hF.1 _ _ (by unfold xTD; omega)]; exact h62
    unfold f_X12_isTold_L17
    rw [m_many hM', clp_some, if_pos (by rw [uI_lt (by omega) (by omega)]; exact hk), rdA_nI (by omega) (by omega), (hC'.2.2 i hi).1, ea, jn_eq, n2, uI_add]
    rw [show tF t - k = (tF t - (k + 1)) + 1 by omega, su_dec]
    simp only [uI_inj (show k < 2147483648 by omega) (show (qP p i).1 < 2147483648 by omega), uI_inj (show k < 2147483648 by omega) (show c < 2147483648 by omega)]
    by_cases e1 : k = (qP p i).1
    · rw [if_pos e1, if_pos e1]
      exact ih (by omega) h hF
    rw [if_neg e1, if_neg e1]
    by_cases e2 : k = c
    · rw [if_pos e2, if_pos e2]
      exact ih (by omega) h hF
    rw [if_neg e2, if_neg e2]
    obtain ⟨h1, f1, f2, f3⟩ := m_leastBy hV hP hi hk h hM' hC' h2'
    have f4 : Fr xTD h0 h1 := hF.tr (f3.mono (fun c j hx => by unfold xLB at hx; unfold xTD; omega))
    rw [f1, cl_some]
    have l := (le_le hV hQ hk 9 (by omega)).1
    have hx : (nI m < nI (lf t (qP p i) k)) = (m < lf t (qP p i) k) := uI_lt (by omega) (by unfold lf; omega)
    simp only [hx]
    by_cases e3 : m < lf t (qP p i) k
    · rw [if_pos e3, if_pos e3]
      exact ih (by omega) h1 f4
    · rw [if_neg e3, if_neg e3]
      exact PO.mk f4
  · intro n _ h hF
    have hM' : MT bk t h := hM.fr hF (fun a k h1 h2 h3 => by unfold xTD at h3; omega) (by unfold xTD; omega)
    have hC' : MP p h := hC.fr hF (fun a k h1 h2 h3 => by unfold xTD at h3; omega) (by unfold xTD; omega) (by unfold xTD; omega)
    unfold f_X12_isTold_L17
    rw [m_many hM', clp_some, if_neg (by rw [uI_lt (by omega) (by omega)]; omega), rdA_nI (by omega) (by omega), rdA_nI (by omega) (by omega), m_printerOf hC' hi hN, clp_some, (hC'.2.2 i hi).1, ea, m_layMix _ _ hM' hV hQ.1 hQ.1 hQ.2.2.2, cl_some]
    generalize hH : rowS h 176 (tP t) (fun j => pri t (qP p i).2.2.2 (mixv t (qP p i).1 (qP p i).1 (nI 10) j)) = H
    have fH : Fr xTD h H := by rw [← hH]; exact Fr.rowS (fun _ => Or.inl rfl)
    have eD : farS (tP t) (H.1 176) (H.1 177) = nI (qD t (qP p i) (qP p i).1 10) := by
      rw [← qI_sym hV hQ hQ.1 (show 10 ≤ 10 by omega)]
      refine farS_congr (fun j hj => ?_) (fun j hj => ?_)
      · rw [← hH, rowS_in hj]; rfl
      · rw [(hF.tr fH).1 _ _ (by unfold xTD; omega)]; exact h2 j hj
    rw [m_farBeside (hM'.fr fH (fun a k h1 h2 h3 => by unfold xTD at h3; omega) (by unfold xTD; omega)) hV, clp_some, eD, Nat.sub_self]
    unfold su
    have hx : (nI m < nI (qD t (qP p i) (qP p i).1 10)) = (m < qD t (qP p i) (qP p i).1 10) := uI_lt (by omega) (by omega)
    simp only [hx]
    by_cases e : m < qD t (qP p i) (qP p i).1 10
    · simp only [e, if_true, decide_true]; exact PO.mk (hF.tr fH)
    · simp only [e, if_false, decide_false]; exact PO.mk (hF.tr fH)
theorem m_behind {bk : Nat} {t : Tn} {p : Pp} {h : CH} (x w k : Int32) (hM : MT bk t h) (hVT : VT t) (hC : MP p h) (hV : VP (tF t) p) : PO TM h (f_X12_behind x w k h) (bhA t p x w k) := by
  have v3 := hVT.2.2.1
  have q0 := hVT.2.2.2.2.1
  obtain ⟨nr, hnr, enr⟩ := q0
  unfold f_X12_behind bhA
  rw [m_counts x k hC hV, clp_some, ifB, m_isIn, clp_some, ifB]
  cases hk : cnt p x k
  · cases inR (nI 0) (nI 3) w <;> exact PO.mk Fr.rf
  cases hw : inR (nI 0) (nI 3) w
  · exact PO.mk Fr.rf
  simp only [if_true]
  obtain ⟨i, hi, rfl⟩ := cnt_F hk hV.1
  have hiN := hV.1
  rw [uI_toNat (by omega)]
  obtain ⟨hQ, ea, eb, es⟩ := VQ_qP hVT hV hi
  unfold f_X12_findBehind f_X12_layPaper
  obtain ⟨d1, d2, d3, d4, d5, d6⟩ := hC.2.2 i hi
  rw [rdA_nI (by omega) (by omega), rdA_nI (by omega) (by omega), rdA_nI (by omega) (by omega), m_printerOf hC hi hiN, clp_some, d1, d2, d3, ea, eb, m_layMix _ _ hM hVT hQ.1 hQ.2.1 hQ.2.2.2, cl_some, cl_some]
  generalize hA : rowS h 176 (tP t) (fun j => pri t (qP p i).2.2.2 (mixv t (qP p i).1 (qP p i).2.1 (psh p i) j)) = A
  have fA : Fr TM h A := by rw [← hA]; exact Fr.rowS (fun _ => by unfold TM; omega)
  rw [m_putBeside (hM.tm fA) hVT, cl_some, wrF_eq, wrF_eq]
  generalize hB : rowS A 177 (tP t) (A.1 176) = B
  have fB : Fr TM h B := fA.tr (by rw [← hB]; exact Fr.rowS (fun _ => by unfold TM; omega))
  generalize hG : sI (sI B 151 62 (-1)) 151 64 (nI 100000) = G
  have e : ∀ a j, G.1 a j = if a = 151 ∧ j = 64 then nI 100000 else if a = 151 ∧ j = 62 then -1 else B.1 a j := by intro a j; rw [← hG]; rfl
  have fG : Fr TM h G := by rw [← hG]; exact (fB.tr (Fr.sI (by unfold TM; omega))).tr (Fr.sI (by unfold TM; omega))
  have G2 : ∀ j, j < tP t → G.1 177 j = qU t (qP p i) j := by
    intro j hj
    rw [e, if_neg (by omega), if_neg (by omega), ← hB, rowS_in hj, ← hA, rowS_in hj, es]
    rfl
  obtain ⟨s1, s2⟩ := m_findL hVT hV hi G (hM.tm fG) (hC.tm fG) G2 (by rw [e, if_neg (by omega), if_pos ⟨rfl, rfl⟩]) (by rw [e, if_pos ⟨rfl, rfl⟩])
  cases hb : bs t (qP p i) (tF t) with
  | none =>
    obtain ⟨h', e1, e2⟩ := s2 hb
    rw [e1, cl_some, if_pos (show nI 0 = 0 from rfl)]
    exact PO.mk (fG.tr (e2.mono (fun c j hx => by unfold xFB at hx; unfold TM; omega)))
  | some c =>
    obtain ⟨h', e1, n2, n3, n4, e5⟩ := s1 c hb
    have lc := bs_lt _ _ hb
    have fE : Fr TM h h' := fG.tr (e5.mono (fun c j hx => by unfold xFB at hx; unfold TM; omega))
    rw [e1, cl_some, if_neg (by decide), n2, n3, n4]
    show PO TM h _ (bhV t (qP p i) w c)
    unfold bhV
    by_cases w0 : w = nI 0
    · rw [if_pos (show w = 0 from w0), if_pos w0]; exact PO.mk fE
    rw [if_neg (show ¬ w = 0 from w0), if_neg w0]
    by_cases w1 : w = nI 1
    · rw [if_pos w1, if_pos w1]; exact PO.mk fE
    rw [if_neg w1, if_neg w1]
    by_cases w2 : w = nI 2
    · rw [if_pos w2, if_pos w2]; exact PO.mk fE
    rw [if_neg w2, if_neg w2]
    have hM' := hM.tm fE
    have l := (le_le hVT hQ lc.1 9 (by omega)).2.2 (by omega)
    have ll : lf t (qP p i) c ≤ 792 := l
    unfold f_X12_isTold
    have b1 := hM'.1
    rw [hM'.2.1, rdA_nI (by omega) (by omega), hM'.2.2.2.1, n4, enr, uI_add, uI_toNat (by omega)]
    obtain ⟨h2, z1, z2⟩ := m_isToldL (m := lf t (qP p i) c + nr) hVT hV hi (by omega) lc.1 h' hM' (hC.tm fE) (fun j hj => by rw [e5.1 _ _ (by unfold xFB; omega)]; exact G2 j hj) n2
    rw [z1, cl_some, ifB]
    have fZ : Fr TM h h2 := fE.tr (z2.mono (fun c j hx => by unfold xTD at hx; unfold TM; omega))
    cases su t (qP p i) c (lf t (qP p i) c + nr) (tF t) 0
    · exact PO.mk fZ
    · exact PO.mk fZ
