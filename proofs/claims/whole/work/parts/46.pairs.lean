/-! counts of pairs, of false ones, of the held, of twins -/
theorem sm_s0 {g : Nat → Int32} {j : Nat} (h : g j = nI 0) : smI (j + 1) g = smI j g := by
  rw [smI, h, ← uI_z, Int32.add_zero]
theorem sm_s1 {g : Nat → Int32} {j : Nat} (h : g j = nI 1) : smI (j + 1) g = smI j g + nI 1 := by
  rw [smI, h]
theorem c_isAble {t : Tn} {R : Ru} {y l : Int32} {h : CH} {a b : Nat} (w : WC t R h) (hG : GO t y l h) (ha : a < tF t) (hb : b < tF t) : PO SG h (f_X1_isAble (nI a) (nI b) h) (bI (ablS t R y l a b)) := by
  unfold f_X1_isAble
  refine loop_FU (fun n k => ∀ h2, Fr SG h h2 → (∀ s, s < k → bpS t R y l a b (nI s) = false) → PO SG h (f_X1_isAble_L2 (nI a) (nI b) n (nI k) h2) (bI (ablS t R y l a b))) 11 (by omega) ?_ ?_ h Fr.rf (fun s hs => absurd hs (Nat.not_lt_zero s))
  · intro n k hk ih h2 hF2 hno
    have w2 := w.tc (hF2.mono SG_TC)
    have g2 := hG.sg hF2 w.1
    rw [f_X1_isAble_L2]
    have e10 : ¬ 10 < k := by omega
    simp (disch := omega) only [clp_some, cl_some, jn_eq, uI_add, uI_mul, uI_lt, uI_lt0, uI_0lt, uI_eq0, uI_inj, uI_ne1, n1_ne, n1_lt, uI_lt1, rdA_nI, rdQ_nI, rdL_nI, wrA_nI, wrL_nI, wrF_eq, wrJ_eq, dvd_nI, ite_true, ite_false, if_true, if_false, bI_t, bI_f, bI_0, decide_true, decide_false, Nat.one_ne_zero, Nat.reduceEqDiff, Nat.reduceLT, Nat.reduceLeDiff, Nat.reduceAdd, Nat.reduceMul, Nat.reduceSub, Nat.reduceDiv, e10]
    rw [c_makeMix _ w2.2.2.1 w.1 ha hb, cl_some]
    obtain ⟨m, hF⟩ := MX.of (mixv t a b (nI k)) w2 g2
    have hFm := hF2.tr hF
    rw [m.apart ha, clp_some]
    have go : ∀ h3, Fr SG h h3 → bpS t R y l a b (nI k) = false → PO SG h (f_X1_isAble_L2 (nI a) (nI b) n (nI (k + 1)) h3) (bI (ablS t R y l a b)) := by
      intro h3 hF3 hp
      refine ih h3 hF3 (fun s hs => ?_)
      by_cases e : s = k
      · subst e; exact hp
      · exact hno s (by omega)
    obtain ⟨h3, e3, hF3⟩ := m.lets ha
    rw [e3, cl_some, ifB]
    have m3 := m.sr hF3
    have hF3' := hFm.tr (hF3.mono SR_SG)
    cases hA : mpas t R y l a (mixv t a b (nI k))
    · simp only [Bool.false_eq_true, if_false]
      exact go h3 hF3' (by unfold bpS; rw [hA]; rfl)
    · simp only [if_true]
      rw [m3.apart hb, clp_some]
      obtain ⟨h4, e4, hF4⟩ := m3.lets hb
      rw [e4, cl_some, ifB]
      have hF4' := hF3'.tr (hF4.mono SR_SG)
      cases hB : mpas t R y l b (mixv t a b (nI k))
      · simp only [Bool.false_eq_true, if_false]
        exact go h4 hF4' (by unfold bpS; rw [hA, hB]; rfl)
      · simp only [if_true]
        have : ablS t R y l a b = true := by
          unfold ablS
          rw [decide_eq_true_iff]
          intro q
          have := (bst_able 11 (by omega)).mp q k (by omega)
          unfold bpS at this
          rw [hA, hB] at this
          exact absurd this (by decide)
        rw [this]
        exact PO.mk hF4'
  · intro n h2 hF2 hno
    rw [f_X1_isAble_L2]
    simp (disch := omega) only [clp_some, cl_some, jn_eq, uI_add, uI_mul, uI_lt, uI_lt0, uI_0lt, uI_eq0, uI_inj, uI_ne1, n1_ne, n1_lt, uI_lt1, rdA_nI, rdQ_nI, rdL_nI, wrA_nI, wrL_nI, wrF_eq, wrJ_eq, dvd_nI, ite_true, ite_false, if_true, if_false, bI_t, bI_f, bI_0, decide_true, decide_false, Nat.one_ne_zero, Nat.reduceEqDiff, Nat.reduceLT, Nat.reduceLeDiff, Nat.reduceAdd, Nat.reduceMul, Nat.reduceSub, Nat.reduceDiv]
    have : ablS t R y l a b = false := by
      unfold ablS
      rw [decide_eq_false_iff_not]
      intro q
      exact q ((bst_able 11 (by omega)).mpr hno)
    rw [this]
    exact PO.mk hF2
def prS (t : Tn) (R : Ru) (y l : Int32) : Int32 := smI (tF t) (fun a => smI (tF t - (a + 1)) (fun j => bI (ablS t R y l a (a + 1 + j))))
theorem c_countAble {t : Tn} {R : Ru} {y l : Int32} {h : CH} (w : WC t R h) (hG : GO t y l h) : PO SG h (f_X1_countAble h) (prS t R y l) := by
  have v3 := w.1.2.2.1
  unfold f_X1_countAble
  refine loop_FU (fun n k => ∀ h2, Fr SG h h2 → PO SG h (f_X1_countAble_L4 n (smI k (fun a => smI (tF t - (a + 1)) (fun j => bI (ablS t R y l a (a + 1 + j))))) (nI k) h2) (prS t R y l)) (tF t) (by omega) ?_ ?_ h Fr.rf
  · intro n a ha ih h2 hF2
    have w2 := w.tc (hF2.mono SG_TC)
    rw [f_X1_countAble_L4, w2.2.2.1.2.2.1]
    simp (disch := omega) only [clp_some, cl_some, jn_eq, uI_add, uI_mul, uI_lt, uI_lt0, uI_0lt, uI_eq0, uI_inj, uI_ne1, n1_ne, n1_lt, uI_lt1, rdA_nI, rdQ_nI, rdL_nI, wrA_nI, wrL_nI, wrF_eq, wrJ_eq, dvd_nI, ite_true, ite_false, if_true, if_false, bI_t, bI_f, bI_0, decide_true, decide_false, Nat.one_ne_zero, Nat.reduceEqDiff, Nat.reduceLT, Nat.reduceLeDiff, Nat.reduceAdd, Nat.reduceMul, Nat.reduceSub, Nat.reduceDiv, ha]
    generalize hx0 : smI a (fun a => smI (tF t - (a + 1)) (fun j => bI (ablS t R y l a (a + 1 + j)))) = x0
    have inner := loop_FU (fun n' j => ∀ h3, Fr SG h h3 → PO SG h (f_X1_countAble_L19 (nI a) (fun x1_2 h_3 => f_X1_countAble_L4 n x1_2 (nI (a + 1)) h_3) n' (x0 + smI j (fun j => bI (ablS t R y l a (a + 1 + j)))) (nI (a + 1 + j)) h3) (prS t R y l)) (tF t - (a + 1)) (by omega) ?_ ?_ h2 hF2
    · have e : x0 + smI 0 (fun j => bI (ablS t R y l a (a + 1 + j))) = x0 := Int32.add_zero x0
      rw [e] at inner
      exact inner
    · intro n' j hj ih' h3 hF3
      have w3 := w.tc (hF3.mono SG_TC)
      have g3 := hG.sg hF3 w.1
      have hb : a + 1 + j < tF t := by omega
      rw [f_X1_countAble_L19, w3.2.2.1.2.2.1]
      simp (disch := omega) only [clp_some, cl_some, jn_eq, uI_add, uI_mul, uI_lt, uI_lt0, uI_0lt, uI_eq0, uI_inj, uI_ne1, n1_ne, n1_lt, uI_lt1, rdA_nI, rdQ_nI, rdL_nI, wrA_nI, wrL_nI, wrF_eq, wrJ_eq, dvd_nI, ite_true, ite_false, if_true, if_false, bI_t, bI_f, bI_0, decide_true, decide_false, Nat.one_ne_zero, Nat.reduceEqDiff, Nat.reduceLT, Nat.reduceLeDiff, Nat.reduceAdd, Nat.reduceMul, Nat.reduceSub, Nat.reduceDiv, hb]
      obtain ⟨h4, e4, hF4⟩ := c_isAble w3 g3 ha hb
      have hF4' := hF3.tr hF4
      rw [e4, cl_some, ifB]
      have ih4 := ih' h4 hF4'
      cases hA : ablS t R y l a (a + 1 + j)
      · simp only [Bool.false_eq_true, if_false]
        rw [sm_s0 (by rw [hA]; rfl)] at ih4
        exact ih4
      · simp only [if_true]
        rw [sm_s1 (by rw [hA]; rfl), ← Int32.add_assoc] at ih4
        exact ih4
    · intro n' h3 hF3
      have w3 := w.tc (hF3.mono SG_TC)
      rw [f_X1_countAble_L19, w3.2.2.1.2.2.1]
      have hb : ¬ a + 1 + (tF t - (a + 1)) < tF t := by omega
      simp (disch := omega) only [clp_some, cl_some, jn_eq, uI_add, uI_mul, uI_lt, uI_lt0, uI_0lt, uI_eq0, uI_inj, uI_ne1, n1_ne, n1_lt, uI_lt1, rdA_nI, rdQ_nI, rdL_nI, wrA_nI, wrL_nI, wrF_eq, wrJ_eq, dvd_nI, ite_true, ite_false, if_true, if_false, bI_t, bI_f, bI_0, decide_true, decide_false, Nat.one_ne_zero, Nat.reduceEqDiff, Nat.reduceLT, Nat.reduceLeDiff, Nat.reduceAdd, Nat.reduceMul, Nat.reduceSub, Nat.reduceDiv, hb]
      rw [← hx0]
      exact ih h3 hF3
  · intro n h2 hF2
    have w2 := w.tc (hF2.mono SG_TC)
    rw [f_X1_countAble_L4, w2.2.2.1.2.2.1]
    simp (disch := omega) only [clp_some, cl_some, jn_eq, uI_add, uI_mul, uI_lt, uI_lt0, uI_0lt, uI_eq0, uI_inj, uI_ne1, n1_ne, n1_lt, uI_lt1, rdA_nI, rdQ_nI, rdL_nI, wrA_nI, wrL_nI, wrF_eq, wrJ_eq, dvd_nI, ite_true, ite_false, if_true, if_false, bI_t, bI_f, bI_0, decide_true, decide_false, Nat.one_ne_zero, Nat.reduceEqDiff, Nat.reduceLT, Nat.reduceLeDiff, Nat.reduceAdd, Nat.reduceMul, Nat.reduceSub, Nat.reduceDiv, Nat.lt_irrefl]
    exact PO.mk hF2
/-- the pair at place i of those that are able, from (a, b) on; i left -/
def abF (t : Tn) (R : Ru) (y l : Int32) (a : Nat) : Nat → Nat → Int32 → Int32 ⊕ Int32
  | 0, _, i => .inr i
  | d + 1, b, i => if ablS t R y l a b = true then (if i = 0 then .inl (nI 100 * nI a + nI b) else abF t R y l a d (b + 1) (i + -1)) else abF t R y l a d (b + 1) i
def paF (t : Tn) (R : Ru) (y l : Int32) : Nat → Nat → Int32 → Int32
  | 0, _, _ => -1
  | d + 1, a, i => match abF t R y l a (tF t - (a + 1)) (a + 1) i with
    | .inl v => v
    | .inr j => paF t R y l d (a + 1) j
theorem c_ableAt {t : Tn} {R : Ru} {y l : Int32} {h : CH} (i : Int32) (w : WC t R h) (hG : GO t y l h) : PO SG h (f_X1_ableAt i h) (paF t R y l (tF t) 0 i) := by
  have v3 := w.1.2.2.1
  unfold f_X1_ableAt
  have outer := loop_up (fun n a => ∀ i h2, Fr SG h h2 → PO SG h (f_X1_ableAt_L4 n i (nI a) h2) (paF t R y l (tF t - a) a i)) (tF t) ?_ ?_ FU 0 (Nat.zero_le _) (by show tF t < 100000 + 0; omega) i h Fr.rf
  · exact outer
  · intro n a ha ih i h2 hF2
    have w2 := w.tc (hF2.mono SG_TC)
    rw [f_X1_ableAt_L4, w2.2.2.1.2.2.1]
    simp (disch := omega) only [clp_some, cl_some, jn_eq, uI_add, uI_mul, uI_lt, uI_lt0, uI_0lt, uI_eq0, uI_inj, uI_ne1, n1_ne, n1_lt, uI_lt1, rdA_nI, rdQ_nI, rdL_nI, wrA_nI, wrL_nI, wrF_eq, wrJ_eq, dvd_nI, ite_true, ite_false, if_true, if_false, bI_t, bI_f, bI_0, decide_true, decide_false, Nat.one_ne_zero, Nat.reduceEqDiff, Nat.reduceLT, Nat.reduceLeDiff, Nat.reduceAdd, Nat.reduceMul, Nat.reduceSub, Nat.reduceDiv, ha]
    have ed : tF t - a = (tF t - (a + 1)) + 1 := by omega
    rw [ed, paF]
    have inner := loop_up (fun n' b => ∀ i h3, Fr SG h h3 → PO SG h (f_X1_ableAt_L20 (nI a) (fun x4_2 h_3 => some (nI (100 * a) + x4_2, h_3)) (fun x2_4 h_5 => f_X1_ableAt_L4 n x2_4 (nI (a + 1)) h_5) n' i (nI b) h3) (match abF t R y l a (tF t - b) b i with | .inl v => v | .inr j => paF t R y l (tF t - (a + 1)) (a + 1) j)) (tF t) ?_ ?_ FU (a + 1) (by omega) (by show tF t < 100000 + (a + 1); omega) i h2 hF2
    · exact inner
    · intro n' b hb ih' i h3 hF3
      have w3 := w.tc (hF3.mono SG_TC)
      have g3 := hG.sg hF3 w.1
      rw [f_X1_ableAt_L20, w3.2.2.1.2.2.1]
      simp (disch := omega) only [clp_some, cl_some, jn_eq, uI_add, uI_mul, uI_lt, uI_lt0, uI_0lt, uI_eq0, uI_inj, uI_ne1, n1_ne, n1_lt, uI_lt1, rdA_nI, rdQ_nI, rdL_nI, wrA_nI, wrL_nI, wrF_eq, wrJ_eq, dvd_nI, ite_true, ite_false, if_true, if_false, bI_t, bI_f, bI_0, decide_true, decide_false, Nat.one_ne_zero, Nat.reduceEqDiff, Nat.reduceLT, Nat.reduceLeDiff, Nat.reduceAdd, Nat.reduceMul, Nat.reduceSub, Nat.reduceDiv, hb]
      have ed2 : tF t - b = (tF t - (b + 1)) + 1 := by omega
      obtain ⟨h4, e4, hF4⟩ := c_isAble w3 g3 ha hb
      have hF4' := hF3.tr hF4
      rw [e4, cl_some, ifB, ed2, abF]
      cases hA : ablS t R y l a b
      · simp only [Bool.false_eq_true, if_false]
        exact ih' i h4 hF4'
      · simp only [if_true]
        by_cases e : i = 0
        · simp only [e, if_true]
          rw [uI_mul, uI_add]
          exact PO.mk hF4'
        · simp only [e, if_false]
          exact ih' (i + -1) h4 hF4'
    · intro n' i h3 hF3
      have w3 := w.tc (hF3.mono SG_TC)
      rw [f_X1_ableAt_L20, w3.2.2.1.2.2.1]
      simp (disch := omega) only [clp_some, cl_some, jn_eq, uI_add, uI_mul, uI_lt, uI_lt0, uI_0lt, uI_eq0, uI_inj, uI_ne1, n1_ne, n1_lt, uI_lt1, rdA_nI, rdQ_nI, rdL_nI, wrA_nI, wrL_nI, wrF_eq, wrJ_eq, dvd_nI, ite_true, ite_false, if_true, if_false, bI_t, bI_f, bI_0, decide_true, decide_false, Nat.one_ne_zero, Nat.reduceEqDiff, Nat.reduceLT, Nat.reduceLeDiff, Nat.reduceAdd, Nat.reduceMul, Nat.reduceSub, Nat.reduceDiv, Nat.lt_irrefl]
      rw [Nat.sub_self, abF]
      exact ih i h3 hF3
  · intro n i h2 hF2
    have w2 := w.tc (hF2.mono SG_TC)
    rw [f_X1_ableAt_L4, w2.2.2.1.2.2.1]
    simp (disch := omega) only [clp_some, cl_some, jn_eq, uI_add, uI_mul, uI_lt, uI_lt0, uI_0lt, uI_eq0, uI_inj, uI_ne1, n1_ne, n1_lt, uI_lt1, rdA_nI, rdQ_nI, rdL_nI, wrA_nI, wrL_nI, wrF_eq, wrJ_eq, dvd_nI, ite_true, ite_false, if_true, if_false, bI_t, bI_f, bI_0, decide_true, decide_false, Nat.one_ne_zero, Nat.reduceEqDiff, Nat.reduceLT, Nat.reduceLeDiff, Nat.reduceAdd, Nat.reduceMul, Nat.reduceSub, Nat.reduceDiv, Nat.lt_irrefl]
    rw [Nat.sub_self, paF]
    exact PO.mk hF2
