/-! false ones, the held, twins -/
def ofK (t : Tn) (k : Int32) (f : Nat) : Bool := decide (k = -1) || decide (tkd t f = k)
theorem c_isOf {t : Tn} {h : CH} (hC : CT 7 t h) (hV : VT t) {f : Nat} (k : Int32) (hf : f < tF t) : f_X1_isOf (nI f) k h = some (bI (ofK t k f)) := by
  unfold f_X1_isOf ofK
  rw [jn_eq, c_kindOf hC hV hf, clp_some]
  by_cases e : k = -1
  · simp [e, bI]
  · by_cases e2 : tkd t f = k <;> simp [e, e2, bI]
def fls (t : Tn) (R : Ru) (y l : Int32) (k : Int32) (a b : Nat) : Bool := decide (¬ a = b) && (ofK t k a && mpas t R y l a (ttl t b))
def flS (t : Tn) (R : Ru) (y l : Int32) (k : Int32) : Int32 := smI (tF t) (fun a => smI (tF t) (fun b => bI (fls t R y l k a b)))
theorem c_countFalse {t : Tn} {R : Ru} {y l : Int32} {h : CH} (kd : Int32) (w : WC t R h) (hG : GO t y l h) : PO SG h (f_X1_countFalse kd h) (flS t R y l kd) := by
  have v3 := w.1.2.2.1
  unfold f_X1_countFalse
  refine loop_FU (fun n k => ∀ h2, Fr SG h h2 → PO SG h (f_X1_countFalse_L4 kd n (smI k (fun a => smI (tF t) (fun b => bI (fls t R y l kd a b)))) (nI k) h2) (flS t R y l kd)) (tF t) (by omega) ?_ ?_ h Fr.rf
  · intro n a ha ih h2 hF2
    have w2 := w.tc (hF2.mono SG_TC)
    rw [f_X1_countFalse_L4, w2.2.2.1.2.2.1]
    simp (disch := omega) only [clp_some, cl_some, jn_eq, uI_add, uI_mul, uI_lt, uI_lt0, uI_0lt, uI_eq0, uI_inj, uI_ne1, n1_ne, n1_lt, uI_lt1, rdA_nI, rdQ_nI, rdL_nI, wrA_nI, wrL_nI, wrF_eq, wrJ_eq, dvd_nI, ite_true, ite_false, if_true, if_false, bI_t, bI_f, bI_0, decide_true, decide_false, Nat.one_ne_zero, Nat.reduceEqDiff, Nat.reduceLT, Nat.reduceLeDiff, Nat.reduceAdd, Nat.reduceMul, Nat.reduceSub, Nat.reduceDiv, ha]
    generalize hx0 : smI a (fun a => smI (tF t) (fun b => bI (fls t R y l kd a b))) = x0
    have inner := loop_FU (fun n' j => ∀ h3, Fr SG h h3 → PO SG h (f_X1_countFalse_L18 kd (nI a) (fun x2_2 h_3 => f_X1_countFalse_L4 kd n x2_2 (nI (a + 1)) h_3) n' (x0 + smI j (fun b => bI (fls t R y l kd a b))) (nI j) h3) (flS t R y l kd)) (tF t) (by omega) ?_ ?_ h2 hF2
    · have e : x0 + smI 0 (fun b => bI (fls t R y l kd a b)) = x0 := Int32.add_zero x0
      rw [e] at inner
      exact inner
    · intro n' b hb ih' h3 hF3
      have w3 := w.tc (hF3.mono SG_TC)
      have g3 := hG.sg hF3 w.1
      rw [f_X1_countFalse_L18, w3.2.2.1.2.2.1]
      simp (disch := omega) only [clp_some, cl_some, jn_eq, uI_add, uI_mul, uI_lt, uI_lt0, uI_0lt, uI_eq0, uI_inj, uI_ne1, n1_ne, n1_lt, uI_lt1, rdA_nI, rdQ_nI, rdL_nI, wrA_nI, wrL_nI, wrF_eq, wrJ_eq, dvd_nI, ite_true, ite_false, if_true, if_false, bI_t, bI_f, bI_0, decide_true, decide_false, Nat.one_ne_zero, Nat.reduceEqDiff, Nat.reduceLT, Nat.reduceLeDiff, Nat.reduceAdd, Nat.reduceMul, Nat.reduceSub, Nat.reduceDiv, hb]
      have no : ∀ h4, Fr SG h h4 → fls t R y l kd a b = false → PO SG h (f_X1_countFalse_L18 kd (nI a) (fun x2_2 h_3 => f_X1_countFalse_L4 kd n x2_2 (nI (a + 1)) h_3) n' (x0 + smI b (fun b => bI (fls t R y l kd a b))) (nI (b + 1)) h4) (flS t R y l kd) := by
        intro h4 hF4 e
        have := ih' h4 hF4
        rw [sm_s0 (by rw [e]; rfl)] at this
        exact this
      by_cases e : a = b
      · rw [if_pos e]
        exact no h3 hF3 (by unfold fls; simp [e])
      · rw [if_neg e, c_isOf w3.2.2.1 w.1 kd ha, clp_some, ifB]
        cases hk : ofK t kd a
        · simp only [Bool.false_eq_true, if_false]
          exact no h3 hF3 (by unfold fls; simp [hk])
        · simp only [if_true]
          obtain ⟨h4, e4, hF4⟩ := c_letsInWith w3 g3 ha hb
          have hF4' := hF3.tr (hF4.mono SR_SG)
          rw [e4, cl_some, ifB]
          cases hA : mpas t R y l a (ttl t b)
          · simp only [Bool.false_eq_true, if_false]
            exact no h4 hF4' (by unfold fls; simp [hA])
          · simp only [if_true]
            have := ih' h4 hF4'
            rw [sm_s1 (by unfold fls; simp [e, hk, hA, bI]), ← Int32.add_assoc] at this
            exact this
    · intro n' h3 hF3
      have w3 := w.tc (hF3.mono SG_TC)
      rw [f_X1_countFalse_L18, w3.2.2.1.2.2.1]
      simp (disch := omega) only [clp_some, cl_some, jn_eq, uI_add, uI_mul, uI_lt, uI_lt0, uI_0lt, uI_eq0, uI_inj, uI_ne1, n1_ne, n1_lt, uI_lt1, rdA_nI, rdQ_nI, rdL_nI, wrA_nI, wrL_nI, wrF_eq, wrJ_eq, dvd_nI, ite_true, ite_false, if_true, if_false, bI_t, bI_f, bI_0, decide_true, decide_false, Nat.one_ne_zero, Nat.reduceEqDiff, Nat.reduceLT, Nat.reduceLeDiff, Nat.reduceAdd, Nat.reduceMul, Nat.reduceSub, Nat.reduceDiv, Nat.lt_irrefl]
      rw [← hx0]
      exact ih h3 hF3
  · intro n h2 hF2
    have w2 := w.tc (hF2.mono SG_TC)
    rw [f_X1_countFalse_L4, w2.2.2.1.2.2.1]
    simp (disch := omega) only [clp_some, cl_some, jn_eq, uI_add, uI_mul, uI_lt, uI_lt0, uI_0lt, uI_eq0, uI_inj, uI_ne1, n1_ne, n1_lt, uI_lt1, rdA_nI, rdQ_nI, rdL_nI, wrA_nI, wrL_nI, wrF_eq, wrJ_eq, dvd_nI, ite_true, ite_false, if_true, if_false, bI_t, bI_f, bI_0, decide_true, decide_false, Nat.one_ne_zero, Nat.reduceEqDiff, Nat.reduceLT, Nat.reduceLeDiff, Nat.reduceAdd, Nat.reduceMul, Nat.reduceSub, Nat.reduceDiv, Nat.lt_irrefl]
    exact PO.mk hF2
def hld (t : Tn) (R : Ru) (y l : Int32) (k : Int32) (a : Nat) : Bool := ofK t k a && !(mpas t R y l a (ttl t a))
def hdS (t : Tn) (R : Ru) (y l : Int32) (k : Int32) : Int32 := smI (tF t) (fun a => bI (hld t R y l k a))
theorem c_countHeld {t : Tn} {R : Ru} {y l : Int32} {h : CH} (kd : Int32) (w : WC t R h) (hG : GO t y l h) : PO SG h (f_X1_countHeld kd h) (hdS t R y l kd) := by
  have v3 := w.1.2.2.1
  unfold f_X1_countHeld
  refine loop_FU (fun n k => ∀ h2, Fr SG h h2 → PO SG h (f_X1_countHeld_L4 kd n (smI k (fun a => bI (hld t R y l kd a))) (nI k) h2) (hdS t R y l kd)) (tF t) (by omega) ?_ ?_ h Fr.rf
  · intro n a ha ih h2 hF2
    have w2 := w.tc (hF2.mono SG_TC)
    have g2 := hG.sg hF2 w.1
    rw [f_X1_countHeld_L4, w2.2.2.1.2.2.1]
    simp (disch := omega) only [clp_some, cl_some, jn_eq, uI_add, uI_mul, uI_lt, uI_lt0, uI_0lt, uI_eq0, uI_inj, uI_ne1, n1_ne, n1_lt, uI_lt1, rdA_nI, rdQ_nI, rdL_nI, wrA_nI, wrL_nI, wrF_eq, wrJ_eq, dvd_nI, ite_true, ite_false, if_true, if_false, bI_t, bI_f, bI_0, decide_true, decide_false, Nat.one_ne_zero, Nat.reduceEqDiff, Nat.reduceLT, Nat.reduceLeDiff, Nat.reduceAdd, Nat.reduceMul, Nat.reduceSub, Nat.reduceDiv, ha]
    rw [c_isOf w2.2.2.1 w.1 kd ha, clp_some, ifB]
    have no : ∀ h4, Fr SG h h4 → hld t R y l kd a = false → PO SG h (f_X1_countHeld_L4 kd n (smI a (fun a => bI (hld t R y l kd a))) (nI (a + 1)) h4) (hdS t R y l kd) := by
      intro h4 hF4 e
      have := ih h4 hF4
      rw [sm_s0 (by rw [e]; rfl)] at this
      exact this
    cases hk : ofK t kd a
    · simp only [Bool.false_eq_true, if_false]
      exact no h2 hF2 (by unfold hld; simp [hk])
    · simp only [if_true]
      obtain ⟨h4, e4, hF4⟩ := c_letsInWith w2 g2 ha ha
      have hF4' := hF2.tr (hF4.mono SR_SG)
      rw [e4, cl_some, ifB]
      cases hA : mpas t R y l a (ttl t a)
      · simp only [Bool.false_eq_true, if_false]
        have := ih h4 hF4'
        rw [sm_s1 (by unfold hld; simp [hk, hA, bI])] at this
        exact this
      · simp only [if_true]
        exact no h4 hF4' (by unfold hld; simp [hA])
  · intro n h2 hF2
    have w2 := w.tc (hF2.mono SG_TC)
    rw [f_X1_countHeld_L4, w2.2.2.1.2.2.1]
    simp (disch := omega) only [clp_some, cl_some, jn_eq, uI_add, uI_mul, uI_lt, uI_lt0, uI_0lt, uI_eq0, uI_inj, uI_ne1, n1_ne, n1_lt, uI_lt1, rdA_nI, rdQ_nI, rdL_nI, wrA_nI, wrL_nI, wrF_eq, wrJ_eq, dvd_nI, ite_true, ite_false, if_true, if_false, bI_t, bI_f, bI_0, decide_true, decide_false, Nat.one_ne_zero, Nat.reduceEqDiff, Nat.reduceLT, Nat.reduceLeDiff, Nat.reduceAdd, Nat.reduceMul, Nat.reduceSub, Nat.reduceDiv, Nat.lt_irrefl]
    exact PO.mk hF2
def twn (t : Tn) (R : Ru) (y l : Int32) (a b : Nat) : Bool := mpas t R y l a (ttl t b) && mpas t R y l b (ttl t a)
def twS (t : Tn) (R : Ru) (y l : Int32) : Int32 := smI (tF t) (fun a => smI (tF t - (a + 1)) (fun j => bI (twn t R y l a (a + 1 + j))))
theorem c_countTwins {t : Tn} {R : Ru} {y l : Int32} {h : CH} (w : WC t R h) (hG : GO t y l h) : PO SG h (f_X1_countTwins h) (twS t R y l) := by
  have v3 := w.1.2.2.1
  unfold f_X1_countTwins
  refine loop_FU (fun n k => ∀ h2, Fr SG h h2 → PO SG h (f_X1_countTwins_L4 n (smI k (fun a => smI (tF t - (a + 1)) (fun j => bI (twn t R y l a (a + 1 + j))))) (nI k) h2) (twS t R y l)) (tF t) (by omega) ?_ ?_ h Fr.rf
  · intro n a ha ih h2 hF2
    have w2 := w.tc (hF2.mono SG_TC)
    rw [f_X1_countTwins_L4, w2.2.2.1.2.2.1]
    simp (disch := omega) only [clp_some, cl_some, jn_eq, uI_add, uI_mul, uI_lt, uI_lt0, uI_0lt, uI_eq0, uI_inj, uI_ne1, n1_ne, n1_lt, uI_lt1, rdA_nI, rdQ_nI, rdL_nI, wrA_nI, wrL_nI, wrF_eq, wrJ_eq, dvd_nI, ite_true, ite_false, if_true, if_false, bI_t, bI_f, bI_0, decide_true, decide_false, Nat.one_ne_zero, Nat.reduceEqDiff, Nat.reduceLT, Nat.reduceLeDiff, Nat.reduceAdd, Nat.reduceMul, Nat.reduceSub, Nat.reduceDiv, ha]
    generalize hx0 : smI a (fun a => smI (tF t - (a + 1)) (fun j => bI (twn t R y l a (a + 1 + j)))) = x0
    have inner := loop_FU (fun n' j => ∀ h3, Fr SG h h3 → PO SG h (f_X1_countTwins_L19 (nI a) (fun x1_2 h_3 => f_X1_countTwins_L4 n x1_2 (nI (a + 1)) h_3) n' (x0 + smI j (fun j => bI (twn t R y l a (a + 1 + j)))) (nI (a + 1 + j)) h3) (twS t R y l)) (tF t - (a + 1)) (by omega) ?_ ?_ h2 hF2
    · have e : x0 + smI 0 (fun j => bI (twn t R y l a (a + 1 + j))) = x0 := Int32.add_zero x0
      rw [e] at inner
      exact inner
    · intro n' j hj ih' h3 hF3
      have w3 := w.tc (hF3.mono SG_TC)
      have g3 := hG.sg hF3 w.1
      have hb : a + 1 + j < tF t := by omega
      rw [f_X1_countTwins_L19, w3.2.2.1.2.2.1]
      simp (disch := omega) only [clp_some, cl_some, jn_eq, uI_add, uI_mul, uI_lt, uI_lt0, uI_0lt, uI_eq0, uI_inj, uI_ne1, n1_ne, n1_lt, uI_lt1, rdA_nI, rdQ_nI, rdL_nI, wrA_nI, wrL_nI, wrF_eq, wrJ_eq, dvd_nI, ite_true, ite_false, if_true, if_false, bI_t, bI_f, bI_0, decide_true, decide_false, Nat.one_ne_zero, Nat.reduceEqDiff, Nat.reduceLT, Nat.reduceLeDiff, Nat.reduceAdd, Nat.reduceMul, Nat.reduceSub, Nat.reduceDiv, hb]
      have no : ∀ h4, Fr SG h h4 → twn t R y l a (a + 1 + j) = false → PO SG h (f_X1_countTwins_L19 (nI a) (fun x1_2 h_3 => f_X1_countTwins_L4 n x1_2 (nI (a + 1)) h_3) n' (x0 + smI j (fun j => bI (twn t R y l a (a + 1 + j)))) (nI (a + 1 + j + 1)) h4) (twS t R y l) := by
        intro h4 hF4 e
        have := ih' h4 hF4
        rw [sm_s0 (by rw [e]; rfl)] at this
        exact this
      obtain ⟨h4, e4, hF4⟩ := c_letsInWith w3 g3 ha hb
      have hF4' := hF3.tr (hF4.mono SR_SG)
      rw [e4, cl_some, ifB]
      cases hA : mpas t R y l a (ttl t (a + 1 + j))
      · simp only [Bool.false_eq_true, if_false]
        exact no h4 hF4' (by unfold twn; simp [hA])
      · simp only [if_true]
        have w4 := w.tc (hF4'.mono SG_TC)
        have g4 := hG.sg hF4' w.1
        obtain ⟨h5, e5, hF5⟩ := c_letsInWith w4 g4 hb ha
        have hF5' := hF4'.tr (hF5.mono SR_SG)
        rw [e5, cl_some, ifB]
        cases hB : mpas t R y l (a + 1 + j) (ttl t a)
        · simp only [Bool.false_eq_true, if_false]
          exact no h5 hF5' (by unfold twn; simp [hB])
        · simp only [if_true]
          have := ih' h5 hF5'
          rw [sm_s1 (by unfold twn; simp [hA, hB, bI]), ← Int32.add_assoc] at this
          exact this
    · intro n' h3 hF3
      have w3 := w.tc (hF3.mono SG_TC)
      rw [f_X1_countTwins_L19, w3.2.2.1.2.2.1]
      have hb : ¬ a + 1 + (tF t - (a + 1)) < tF t := by omega
      simp (disch := omega) only [clp_some, cl_some, jn_eq, uI_add, uI_mul, uI_lt, uI_lt0, uI_0lt, uI_eq0, uI_inj, uI_ne1, n1_ne, n1_lt, uI_lt1, rdA_nI, rdQ_nI, rdL_nI, wrA_nI, wrL_nI, wrF_eq, wrJ_eq, dvd_nI, ite_true, ite_false, if_true, if_false, bI_t, bI_f, bI_0, decide_true, decide_false, Nat.one_ne_zero, Nat.reduceEqDiff, Nat.reduceLT, Nat.reduceLeDiff, Nat.reduceAdd, Nat.reduceMul, Nat.reduceSub, Nat.reduceDiv, hb]
      rw [← hx0]
      exact ih h3 hF3
  · intro n h2 hF2
    have w2 := w.tc (hF2.mono SG_TC)
    rw [f_X1_countTwins_L4, w2.2.2.1.2.2.1]
    simp (disch := omega) only [clp_some, cl_some, jn_eq, uI_add, uI_mul, uI_lt, uI_lt0, uI_0lt, uI_eq0, uI_inj, uI_ne1, n1_ne, n1_lt, uI_lt1, rdA_nI, rdQ_nI, rdL_nI, wrA_nI, wrL_nI, wrF_eq, wrJ_eq, dvd_nI, ite_true, ite_false, if_true, if_false, bI_t, bI_f, bI_0, decide_true, decide_false, Nat.one_ne_zero, Nat.reduceEqDiff, Nat.reduceLT, Nat.reduceLeDiff, Nat.reduceAdd, Nat.reduceMul, Nat.reduceSub, Nat.reduceDiv, Nat.lt_irrefl]
    exact PO.mk hF2
