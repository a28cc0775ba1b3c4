/-! the reference's false ones, held, twins, until -/
theorem kd_neg {x : Int32} (h : inR (-1) (nI 3) x = true) : (x < 0) = (x = -1) := by
  have h1 := (of_decide_eq_true h).1
  refine propext ⟨fun h2 => ?_, fun h2 => by rw [h2]; decide⟩
  apply Int32.toInt_inj.mp
  rw [Int32.lt_iff_toInt_lt] at h1 h2
  have e1 : (-1 : Int32).toInt = -1 := by decide
  have e0 : (0 : Int32).toInt = 0 := by decide
  rw [e1] at h1 ⊢
  rw [e0] at h2
  omega
theorem m_kd {bk : Nat} {t : Tn} {h : CH} {f : Nat} (hM : MT bk t h) (hV : VT t) (hf : f < tF t) {σ : Type} (K : Int32 → Option σ) : rdA h 158 32 (nI 16 * h.1 151 26 + nI f) K = K (tkd t f) := by
  have v3 := hV.2.2.1
  obtain ⟨c0, c1, c2, c3, c4, c5, c6, -⟩ := hM
  rw [c1, uI_mul, uI_add, rdA_nI (by omega) (by omega), c6 f hf]
theorem m_gateF {bk : Nat} {t : Tn} {R : Ru} {h : CH} (kd y l : Int32) (w : WM bk t R h) (hk : inR (-1) (nI 3) kd = true) : PO TM h (f_X12_gate_L35 (nI 0) kd y l FU (nI 0) (nI 0) h) (flS t R y l kd) := by
  have v3 := w.1.2.2.1
  refine loop_FU (fun n k => ∀ h2, Fr TM h h2 → PO TM h (f_X12_gate_L35 (nI 0) kd y l n (smI k (fun a => smI (tF t) (fun b => bI (fls t R y l kd a b)))) (nI k) h2) (flS t R y l kd)) (tF t) (by omega) ?_ ?_ h Fr.rf
  · intro n a ha ih h2 hF2
    have w2 := w.tm hF2
    rw [f_X12_gate_L35, m_many w2.2.2.1]
    have e01 : (nI 0 = nI 1) = False := eq_false (by decide)
    simp (disch := omega) only [clp_some, cl_some, jn_eq, uI_add, uI_mul, uI_lt, uI_lt0, uI_0lt, uI_eq0, uI_inj, uI_ne1, n1_ne, n1_lt, uI_lt1, rdA_nI, rdQ_nI, rdL_nI, wrA_nI, wrL_nI, wrF_eq, wrJ_eq, dvd_nI, ite_true, ite_false, if_true, if_false, bI_t, bI_f, bI_0, decide_true, decide_false, Nat.one_ne_zero, Nat.reduceEqDiff, Nat.reduceLT, Nat.reduceLeDiff, Nat.reduceAdd, Nat.reduceMul, Nat.reduceSub, Nat.reduceDiv, ha, m_kd w2.2.2.1 w.1 ha, kd_neg hk]
    generalize hx0 : smI a (fun a => smI (tF t) (fun b => bI (fls t R y l kd a b))) = x0
    have inner : ofK t kd a = true → PO TM h (f_X12_gate_L102 (nI 0) kd y l (nI a) (fun x5_16 h_17 => f_X12_gate_L35 (nI 0) kd y l n x5_16 (nI (a + 1)) h_17) FU x0 (nI 0) h2) (flS t R y l kd) := by
      intro hof
      have inner := loop_FU (fun n' j => ∀ h3, Fr TM h h3 → PO TM h (f_X12_gate_L102 (nI 0) kd y l (nI a) (fun x5_16 h_17 => f_X12_gate_L35 (nI 0) kd y l n x5_16 (nI (a + 1)) h_17) n' (x0 + smI j (fun b => bI (fls t R y l kd a b))) (nI j) h3) (flS t R y l kd)) (tF t) (by omega) ?_ ?_ h2 hF2
      · have e : x0 + smI 0 (fun b => bI (fls t R y l kd a b)) = x0 := Int32.add_zero x0
        rw [e] at inner
        exact inner
      · intro n' b hb ih' h3 hF3
        have w3 := w.tm hF3
        rw [f_X12_gate_L102, m_many w3.2.2.1]
        simp (disch := omega) only [clp_some, cl_some, jn_eq, uI_add, uI_mul, uI_lt, uI_lt0, uI_0lt, uI_eq0, uI_inj, uI_ne1, n1_ne, n1_lt, uI_lt1, rdA_nI, rdQ_nI, rdL_nI, wrA_nI, wrL_nI, wrF_eq, wrJ_eq, dvd_nI, ite_true, ite_false, if_true, if_false, bI_t, bI_f, bI_0, decide_true, decide_false, Nat.one_ne_zero, Nat.reduceEqDiff, Nat.reduceLT, Nat.reduceLeDiff, Nat.reduceAdd, Nat.reduceMul, Nat.reduceSub, Nat.reduceDiv, hb]
        have no : ∀ h4, Fr TM h h4 → fls t R y l kd a b = false → PO TM h (f_X12_gate_L102 (nI 0) kd y l (nI a) (fun x5_16 h_17 => f_X12_gate_L35 (nI 0) kd y l n x5_16 (nI (a + 1)) h_17) n' (x0 + smI b (fun b => bI (fls t R y l kd a b)) + nI 0) (nI (b + 1)) h4) (flS t R y l kd) := by
          intro h4 hF4 e
          have := ih' h4 hF4
          rw [sm_s0 (by rw [e]; rfl)] at this
          rw [← uI_z, Int32.add_zero]
          exact this
        by_cases e : b = a
        · rw [if_pos e]
          exact no h3 hF3 (by unfold fls; simp [e])
        · rw [if_neg e]
          obtain ⟨h4, e4, hF4⟩ := m_isPassOf y l w3 ha hb
          have hF4' := hF3.tr hF4
          rw [e4, cl_some, ifB]
          cases hA : mpas t R y l a (ttl t b)
          · simp only [Bool.false_eq_true, if_false]
            exact no h4 hF4' (by unfold fls; simp [hA])
          · simp only [if_true]
            have := ih' h4 hF4'
            rw [sm_s1 (by unfold fls; simp [Ne.symm e, hof, hA, bI]), ← Int32.add_assoc] at this
            exact this
      · intro n' h3 hF3
        have w3 := w.tm hF3
        rw [f_X12_gate_L102, m_many w3.2.2.1]
        simp (disch := omega) only [clp_some, cl_some, jn_eq, uI_add, uI_mul, uI_lt, uI_lt0, uI_0lt, uI_eq0, uI_inj, uI_ne1, n1_ne, n1_lt, uI_lt1, rdA_nI, rdQ_nI, rdL_nI, wrA_nI, wrL_nI, wrF_eq, wrJ_eq, dvd_nI, ite_true, ite_false, if_true, if_false, bI_t, bI_f, bI_0, decide_true, decide_false, Nat.one_ne_zero, Nat.reduceEqDiff, Nat.reduceLT, Nat.reduceLeDiff, Nat.reduceAdd, Nat.reduceMul, Nat.reduceSub, Nat.reduceDiv, Nat.lt_irrefl]
        rw [← hx0]
        exact ih h3 hF3
    by_cases e1 : kd = -1
    · simp only [e1, if_true]
      rw [e1] at inner
      exact inner (by unfold ofK; simp)
    · simp only [e1, if_false]
      by_cases e2 : tkd t a = kd
      · simp only [e2, if_true]
        exact inner (by unfold ofK; simp [e2])
      · simp only [e2, if_false]
        have := ih h2 hF2
        have z : ∀ b, fls t R y l kd a b = false := fun b => by unfold fls ofK; simp [e1, e2]
        have z2 : ∀ m, smI m (fun b => bI (fls t R y l kd a b)) = nI 0 := by
          intro m
          induction m with
          | zero => rfl
          | succ m ihm => rw [sm_s0 (by rw [z]; rfl), ihm]
        rw [sm_s0 (z2 _), hx0] at this
        exact this
  · intro n h2 hF2
    have w2 := w.tm hF2
    rw [f_X12_gate_L35, m_many w2.2.2.1]
    simp (disch := omega) only [clp_some, cl_some, jn_eq, uI_add, uI_mul, uI_lt, uI_lt0, uI_0lt, uI_eq0, uI_inj, uI_ne1, n1_ne, n1_lt, uI_lt1, rdA_nI, rdQ_nI, rdL_nI, wrA_nI, wrL_nI, wrF_eq, wrJ_eq, dvd_nI, ite_true, ite_false, if_true, if_false, bI_t, bI_f, bI_0, decide_true, decide_false, Nat.one_ne_zero, Nat.reduceEqDiff, Nat.reduceLT, Nat.reduceLeDiff, Nat.reduceAdd, Nat.reduceMul, Nat.reduceSub, Nat.reduceDiv, Nat.lt_irrefl]
    exact PO.mk hF2
theorem m_gateH {bk : Nat} {t : Tn} {R : Ru} {h : CH} (kd y l : Int32) (w : WM bk t R h) (hk : inR (-1) (nI 3) kd = true) : PO TM h (f_X12_gate_L35 (nI 1) kd y l FU (nI 0) (nI 0) h) (hdS t R y l kd) := by
  have v3 := w.1.2.2.1
  refine loop_FU (fun n k => ∀ h2, Fr TM h h2 → PO TM h (f_X12_gate_L35 (nI 1) kd y l n (smI k (fun a => bI (hld t R y l kd a))) (nI k) h2) (hdS t R y l kd)) (tF t) (by omega) ?_ ?_ h Fr.rf
  · intro n a ha ih h2 hF2
    have w2 := w.tm hF2
    rw [f_X12_gate_L35, m_many w2.2.2.1]
    simp (disch := omega) only [clp_some, cl_some, jn_eq, uI_add, uI_mul, uI_lt, uI_lt0, uI_0lt, uI_eq0, uI_inj, uI_ne1, n1_ne, n1_lt, uI_lt1, rdA_nI, rdQ_nI, rdL_nI, wrA_nI, wrL_nI, wrF_eq, wrJ_eq, dvd_nI, ite_true, ite_false, if_true, if_false, bI_t, bI_f, bI_0, decide_true, decide_false, Nat.one_ne_zero, Nat.reduceEqDiff, Nat.reduceLT, Nat.reduceLeDiff, Nat.reduceAdd, Nat.reduceMul, Nat.reduceSub, Nat.reduceDiv, ha, m_kd w2.2.2.1 w.1 ha, kd_neg hk]
    have nul : ∀ x h3, Fr TM h h3 → PO TM h (f_X12_gate_L35 (nI 1) kd y l n x (nI (a + 1)) h3) (hdS t R y l kd) → PO TM h (f_X12_gate_L102 (nI 1) kd y l (nI a) (fun x5_16 h_17 => f_X12_gate_L35 (nI 1) kd y l n x5_16 (nI (a + 1)) h_17) FU x (nI 0) h3) (hdS t R y l kd) := by
      intro x h3 hF3 hx
      have w3 := w.tm hF3
      show PO TM h (f_X12_gate_L102 (nI 1) kd y l (nI a) _ (99999 + 1) x (nI 0) h3) _
      rw [f_X12_gate_L102, m_many w3.2.2.1]
      simp (disch := omega) only [clp_some, cl_some, jn_eq, uI_add, uI_mul, uI_lt, uI_lt0, uI_0lt, uI_eq0, uI_inj, uI_ne1, n1_ne, n1_lt, uI_lt1, rdA_nI, rdQ_nI, rdL_nI, wrA_nI, wrL_nI, wrF_eq, wrJ_eq, dvd_nI, ite_true, ite_false, if_true, if_false, bI_t, bI_f, bI_0, decide_true, decide_false, Nat.one_ne_zero, Nat.reduceEqDiff, Nat.reduceLT, Nat.reduceLeDiff, Nat.reduceAdd, Nat.reduceMul, Nat.reduceSub, Nat.reduceDiv]
      by_cases q : 0 < tF t
      · rw [if_pos q]; exact hx
      · rw [if_neg q]; exact hx
    have inner : ofK t kd a = true → PO TM h (cl (f_X12_isPassOf (nI a) (nI a) y l h2) fun v_33 h_34 => if v_33 = 0 then f_X12_gate_L102 (nI 1) kd y l (nI a) (fun x5_16 h_17 => f_X12_gate_L35 (nI 1) kd y l n x5_16 (nI (a + 1)) h_17) FU (smI a (fun a => bI (hld t R y l kd a)) + nI 1) (nI 0) h_34 else f_X12_gate_L102 (nI 1) kd y l (nI a) (fun x5_16 h_17 => f_X12_gate_L35 (nI 1) kd y l n x5_16 (nI (a + 1)) h_17) FU (smI a (fun a => bI (hld t R y l kd a)) + nI 0) (nI 0) h_34) (hdS t R y l kd) := by
      intro hof
      obtain ⟨h4, e4, hF4⟩ := m_isPassOf y l w2 ha ha
      have hF4' := hF2.tr hF4
      rw [e4, cl_some, ifB]
      cases hA : mpas t R y l a (ttl t a)
      · simp only [Bool.false_eq_true, if_false]
        refine nul _ h4 hF4' ?_
        have := ih h4 hF4'
        rw [sm_s1 (by unfold hld; simp [hof, hA, bI])] at this
        exact this
      · simp only [if_true]
        refine nul _ h4 hF4' ?_
        have := ih h4 hF4'
        rw [sm_s0 (by unfold hld; simp [hA, bI])] at this
        rw [← uI_z, Int32.add_zero]
        exact this
    by_cases e1 : kd = -1
    · simp only [e1, if_true]
      rw [e1] at inner
      exact inner (by unfold ofK; simp)
    · simp only [e1, if_false]
      by_cases e2 : tkd t a = kd
      · simp only [e2, if_true]
        exact inner (by unfold ofK; simp [e2])
      · simp only [e2, if_false]
        have := ih h2 hF2
        rw [sm_s0 (by unfold hld ofK; simp [e1, e2, bI])] at this
        exact this
  · intro n h2 hF2
    have w2 := w.tm hF2
    rw [f_X12_gate_L35, m_many w2.2.2.1]
    simp (disch := omega) only [clp_some, cl_some, jn_eq, uI_add, uI_mul, uI_lt, uI_lt0, uI_0lt, uI_eq0, uI_inj, uI_ne1, n1_ne, n1_lt, uI_lt1, rdA_nI, rdQ_nI, rdL_nI, wrA_nI, wrL_nI, wrF_eq, wrJ_eq, dvd_nI, ite_true, ite_false, if_true, if_false, bI_t, bI_f, bI_0, decide_true, decide_false, Nat.one_ne_zero, Nat.reduceEqDiff, Nat.reduceLT, Nat.reduceLeDiff, Nat.reduceAdd, Nat.reduceMul, Nat.reduceSub, Nat.reduceDiv, Nat.lt_irrefl]
    exact PO.mk hF2
