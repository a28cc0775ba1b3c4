/-! looks: the reference -/
theorem m_isShown {bk : Nat} {t : Tn} {R : Ru} {p : Pp} {k : Int32} {h0 : CH} (w : WM bk t R h0) (hC : MP p h0) (hP : VP (tF t) p) {l : Nat} (hl : l < pN p) : PO TM h0 (f_X12_isShown (nI l) k h0) (bI (shB t R p k l)) := by
  have hN := hP.1
  have hV := w.1
  have v3 := hV.2.2.1
  obtain ⟨hQ, ea, eb, es⟩ := VQ_qP hV hP hl
  obtain ⟨d1, d2, d3, d4, d5, d6⟩ := hC.2.2 l hl
  unfold f_X12_isShown shB
  rw [m_counts _ _ hC hP, clp_some, ifB]
  cases hc : cnt p (nI l) k
  · have : gC p k l = false := hc
    rw [this]; exact PO.mk Fr.rf
  have hc : gC p k l = true := hc
  simp only [if_true, hc, Bool.true_and]
  rw [rdA_nI (by omega) (by omega), rdA_nI (by omega) (by omega), rdA_nI (by omega) (by omega), d1, d2, d3, ea, eb, es, m_isIn, clp_some, ifB]
  obtain ⟨q1, q2, q3, q4⟩ := hQ
  have h1 : (nI (qP p l).1 = nI (qP p l).2.1) = ((qP p l).1 = (qP p l).2.1) := uI_inj (by omega) (by omega)
  simp only [h1]
  have h2 : inR (nI 1) (nI 9) (nI (qP p l).2.2.1) = decide (0 < (qP p l).2.2.1 ∧ (qP p l).2.2.1 < 10) := by
    unfold inR
    have a1 : (nI (qP p l).2.2.1 < nI 1) = ((qP p l).2.2.1 < 1) := uI_lt (by omega) (by omega)
    have a2 : (nI 9 < nI (qP p l).2.2.1) = (9 < (qP p l).2.2.1) := uI_lt (by omega) (by omega)
    simp only [a1, a2]
    exact decide_eq_decide.2 ⟨fun z => by omega, fun z => by omega⟩
  rw [h2]
  unfold mxP
  by_cases c1 : (qP p l).1 = (qP p l).2.1
  · rw [if_pos c1]; simp only [c1, not_true_eq_false, decide_false, Bool.false_and]; exact PO.mk Fr.rf
  rw [if_neg c1]
  simp only [c1, not_false_eq_true, decide_true, Bool.true_and]
  by_cases c2 : 0 < (qP p l).2.2.1 ∧ (qP p l).2.2.1 < 10
  · simp only [c2, decide_true, if_true, Bool.true_and, and_self]
    unfold f_X12_layPaper
    rw [rdA_nI (by omega) (by omega), rdA_nI (by omega) (by omega), rdA_nI (by omega) (by omega), d1, d2, d3, ea, eb, es, m_printerOf hC hl hN, clp_some]
    obtain ⟨h2, e1, e2, e3⟩ := m_shown q3 (qP p l).2.2.2 w q1 q2 q4
    rw [e1, cl_some, cl_some]
    obtain ⟨h3, g1, g2⟩ := e3
    rw [g1, cl_some]
    have fz : Fr TM h0 h3 := e2.tr (g2.mono (fun x k q => by unfold SA at q; unfold TM; omega))
    show PO TM h0 (if pS t R p l = 0 then _ else _) _
    by_cases z : pS t R p l = 0
    · rw [if_pos z]; simp only [z, not_true_eq_false, decide_false]; exact PO.mk fz
    · rw [if_neg z]; simp only [z, not_false_eq_true, decide_true]; exact PO.mk fz
  · simp only [c2, decide_false, Bool.false_and, Bool.false_eq_true, if_false]
    exact PO.mk Fr.rf
theorem m_look96 {bk : Nat} {t : Tn} {R : Ru} {p : Pp} {k x2 x4 x5 : Int32} {h0 hs : CH} (w : WM bk t R h0) (hC : MP p h0) (hP : VP (tF t) p) (hFs : Fr TM h0 hs) {m : Nat} (hm : m < 16) {B c : Nat} (hB : B < 1000) (hc : c ≤ 396) (hle : ¬ B < c) (K : Int32 → CH → Option (Int32 × CH)) (v : Int32) (hK : ∀ h', Fr TM h0 h' → PO TM h0 (K (nI (shM t R p k m (pN p))) h') v) : PO TM h0 (f_X12_looks_L96 (nI B) x2 k x4 x5 (nI m) (nI c) K FU (nI 0) (nI 0) hs) v := by
  have hN := hP.1
  have hV := w.1
  have G := loop_FU (fun n l => ∀ h, Fr TM h0 h → PO TM h0 (f_X12_looks_L96 (nI B) x2 k x4 x5 (nI m) (nI c) K n (nI (shM t R p k m l)) (nI l) h) v) (pN p) (by omega) ?_ ?_
  · exact G hs hFs
  · intro n l hl ih h hF
    have hC' := hC.tm hF
    obtain ⟨pr1, pr2⟩ := prN_q hV hP hl
    unfold f_X12_looks_L96
    have x3 : (nI B < nI c) = (B < c) := uI_lt (by omega) (by omega)
    rw [hC'.1, if_pos (by rw [uI_lt (by omega) (by omega)]; exact hl)]
    simp only [x3, hle, if_false]
    rw [m_printerOf hC' hl hN, clp_some, jn_eq, jn_eq, pr1]
    simp only [tb_if (show m < 65536 by omega) (show prN p l < 16 by omega), uI_add, Nat.add_zero]
    rw [shM] at ih
    cases z : m.testBit (prN p l)
    · rw [z] at ih
      simp only [Bool.false_eq_true, if_false]
      exact ih h hF
    · rw [z, Bool.true_and] at ih
      simp only [if_true]
      obtain ⟨h1, e1, e2⟩ := m_isShown (k := k) (w.tm hF) hC' hP hl
      rw [e1, cl_some, ifB]
      cases y : shB t R p k l
      · rw [y] at ih
        simp only [Bool.false_eq_true, if_false]
        exact ih h1 (hF.tr e2)
      · rw [y] at ih
        simp only [if_true]
        exact ih h1 (hF.tr e2)
  · intro n h hF
    have hC' := hC.tm hF
    unfold f_X12_looks_L96
    rw [hC'.1, if_neg (by rw [uI_lt (by omega) (by omega)]; omega)]
    exact hK h hF
theorem m_look47 {bk : Nat} {t : Tn} (hV : VT t) {h : CH} (hM : MT bk t h) {m : Nat} (hm : m < 16) (x1 x2 x3 x4 x5 x8 : Int32) (K : Int32 → Option (Int32 × CH)) : f_X12_looks_L47 x1 x2 x3 x4 x5 (nI m) x8 h K FU (nI 0) (nI 0) = K (nI (coM t m)) := by
  obtain ⟨m0, m1, -, -, -, -, -, -, -, -, -, mc⟩ := hM
  unfold coM
  refine loop_FU (fun n l => f_X12_looks_L47 x1 x2 x3 x4 x5 (nI m) x8 h K n (nI (b4 m (csN t) l)) (nI l) = K (nI (b4 m (csN t) 4))) 4 (by omega) ?_ ?_
  · intro n l hl ih
    unfold f_X12_looks_L47
    rw [if_pos (by rw [uI_lt (by omega) (by omega)]; exact hl), jn_eq, m1]
    simp only [tb_if (show m < 65536 by omega) (show l < 16 by omega)]
    rw [uI_mul, uI_add, rdA_nI (by omega) (by omega), mc l hl, (csN_ok hV hl).1, uI_add, uI_add, uI_add, Nat.add_zero]
    rw [b4] at ih
    cases z : m.testBit l
    · rw [z] at ih; simpa using ih
    · rw [z] at ih; simpa using ih
  · intro n
    unfold f_X12_looks_L47
    rw [if_neg (by rw [uI_lt (by omega) (by omega)]; omega)]
theorem m_look96x {k x2 x4 x5 : Int32} {h0 : CH} {p : Pp} (hC : MP p h0) (hN : pN p ≤ 40) {m : Nat} {B c : Nat} (hB : B < 1000) (hc : c ≤ 396) (hlt : B < c) (K : Int32 → CH → Option (Int32 × CH)) : f_X12_looks_L96 (nI B) x2 k x4 x5 (nI m) (nI c) K FU (nI 0) (nI 0) h0 = K (nI 0) h0 := by
  unfold FU f_X12_looks_L96
  have x3 : (nI B < nI c) = True := by rw [uI_lt (by omega) (by omega)]; exact eq_true hlt
  rw [hC.1]
  simp only [x3, if_true, ite_self]
/-- the reference's best, after set m -/
def lk5 (m : Nat) (q : Nat × Nat) : Int32 := if m = 0 then -1 else nI q.2
theorem m_looks {bk : Nat} {t : Tn} {R : Ru} {p : Pp} {h0 : CH} (x w k : Int32) (wm : WM bk t R h0) (hC : MP p h0) (hP : VP (tF t) p) : PO TM h0 (f_X12_looks x w k h0) (loA t R p x w k) := by
  have hN := hP.1
  have hV := wm.1
  unfold f_X12_looks loA
  rw [m_isIn, clp_some, ifB, m_isIn, clp_some, ifB]
  cases hx : inR (nI 0) (nI 999) x
  · exact PO.mk Fr.rf
  cases hw : inR (nI 0) (nI 1) w
  · exact PO.mk Fr.rf
  simp only [if_true]
  obtain ⟨B, hB, rfl⟩ := inR_nI (by omega) hx
  rw [uI_toNat (by omega)]
  have G := loop_FU (fun n m => ∀ h, Fr TM h0 h → PO TM h0 (f_X12_looks_L31 (nI B) w k n (nI (lk t R p k B m).1) (lk5 m (lk t R p k B m)) (nI m) h) (if w = nI 0 then nI (lk t R p k B 16).1 else nI (lk t R p k B 16).2)) 16 (by omega) ?_ ?_
  · exact G h0 Fr.rf
  · intro n m hm ih h hF
    have wm' := wm.tm hF
    have hC' := hC.tm hF
    have l1 := (lk_le (t := t) (R := R) (p := p) (k := k) (B := B) m)
    have l2 := shM_le (t := t) (R := R) (p := p) (k := k) (m := m) (pN p)
    have l3 := coM_le hV m
    have x2 : (nI B < nI (coM t m)) = (B < coM t m) := uI_lt (by omega) (by omega)
    unfold f_X12_looks_L31
    rw [if_pos (by rw [uI_lt (by omega) (by omega)]; exact hm), m_look47 hV wm'.2.2.1 hm]
    by_cases c : B < coM t m
    · rw [m_look96x hC' hN (by omega) l3 c, jn_eq]
      simp only [x2, c, if_true]
      rw [uI_add]
      have m0 : m ≠ 0 := by
        intro z
        rw [z] at c
        have : coM t 0 = 0 := by simp [coM, b4]
        omega
      have e : lk t R p k B (m + 1) = lk t R p k B m := by
        rw [lk, if_pos c]
        split <;> rfl
      have := ih h hF
      rw [e] at this
      have e5 : lk5 (m + 1) (lk t R p k B m) = lk5 m (lk t R p k B m) := by unfold lk5; rw [if_neg (by omega), if_neg m0]
      rw [e5] at this
      exact this
    · refine m_look96 wm hC hP hF hm (show B < 1000 by omega) l3 c _ _ (fun h' hF' => ?_)
      have ih := ih h' hF'
      rw [jn_eq]
      simp only [x2, c, if_false]
      rw [uI_add]
      by_cases m0 : m = 0
      · subst m0
        have e0 : shM t R p k 0 (pN p) = 0 := shM_0 _
        have e1 : lk t R p k B (0 + 1) = (0, 0) := by
          show (if (0, 0).2 < shM t R p k 0 (pN p) then _ else _) = _
          rw [e0]; rfl
        have x5 : (lk5 0 (lk t R p k B 0) < nI (shM t R p k 0 (pN p))) = True := by
          rw [e0]; exact eq_true (by show (-1 : Int32) < nI 0; decide)
        simp only [x5, if_true]
        rw [e1] at ih
        rw [e0]
        exact ih
      · have e5 : lk5 m (lk t R p k B m) = nI (lk t R p k B m).2 := by unfold lk5; rw [if_neg m0]
        have x5 : (lk5 m (lk t R p k B m) < nI (shM t R p k m (pN p))) = ((lk t R p k B m).2 < shM t R p k m (pN p)) := by rw [e5]; exact uI_lt (by omega) (by omega)
        simp only [x5]
        have e6 : lk5 (m + 1) (lk t R p k B (m + 1)) = nI (lk t R p k B (m + 1)).2 := by unfold lk5; rw [if_neg (by omega)]
        rw [e6] at ih
        by_cases d : (lk t R p k B m).2 < shM t R p k m (pN p)
        · rw [if_pos d]
          rw [lk, if_pos d, if_neg c] at ih
          exact ih
        · rw [if_neg d, e5]
          rw [lk, if_neg d] at ih
          exact ih
  · intro n h hF
    unfold f_X12_looks_L31
    rw [if_neg (by rw [uI_lt (by omega) (by omega)]; omega)]
    have e5 : lk5 16 (lk t R p k B 16) = nI (lk t R p k B 16).2 := rfl
    rw [e5]
    by_cases w0 : w = nI 0
    · rw [if_pos (show w = 0 from w0), if_pos w0]; exact PO.mk hF
    · rw [if_neg (show ¬ w = 0 from w0), if_neg w0]; exact PO.mk hF
