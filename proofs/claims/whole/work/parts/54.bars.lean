/-! plain bars: counts by how far -/
theorem mz_nI (t : Tn) (f i : Nat) (y : Int32) : ∃ n, n ≤ 99 ∧ mz t f i y = nI n := by
  have cl : ∀ v : Int32, ∃ n, n ≤ 99 ∧ mx (nI 0) (mn (nI 99) v) = nI n := by
    intro v
    have z9 : (nI 99).toInt = 99 := uI_toInt (by decide)
    have z0 : (nI 0).toInt = 0 := uI_toInt (by decide)
    unfold mx mn
    by_cases h1 : v < nI 99
    · rw [if_pos h1]
      by_cases h2 : nI 0 < v
      · rw [if_pos h2]
        obtain ⟨k, hk, rfl⟩ := uI_of (x := v) (by rw [Int32.lt_iff_toInt_lt] at h2 ⊢; rw [z0] at h2; rw [show (0 : Int32).toInt = 0 from by decide]; omega)
        rw [uI_lt hk (by omega)] at h1
        exact ⟨k, by omega, rfl⟩
      · rw [if_neg h2]; exact ⟨0, by omega, rfl⟩
    · rw [if_neg h1, if_pos (by decide)]
      exact ⟨99, by omega, rfl⟩
  unfold mz
  split <;> exact cl _
theorem lvz_nI {t : Tn} {f i : Nat} {y l : Int32} (hl : inR (nI 0) (nI 9) l = true) : ∃ n, n ≤ 99 ∧ lvz t f y l i = nI n := by
  obtain ⟨m, hm, em⟩ := mz_nI t f i y
  have h5 := of_decide_eq_true hl
  obtain ⟨k, hk, rfl⟩ := uI_of (x := l) h5.1
  have h6 := h5.2
  rw [uI_lt (by omega) hk] at h6
  unfold lvz mn
  rw [em, uI_add]
  simp only [uI_lt (show m + k < 2147483648 by omega) (show 99 < 2147483648 by omega)]
  by_cases q : m + k < 99
  · rw [if_pos q]; exact ⟨m + k, by omega, rfl⟩
  · rw [if_neg q]; exact ⟨99, by omega, rfl⟩
def fN (t : Tn) (y l : Int32) (a b : Nat) : Nat := (farS (tP t) (lvz t a y l) (ttl t b)).toNatClampNeg
theorem fN_eq {t : Tn} {y l : Int32} (hV : VT t) (hw : wh y l = true) {a b : Nat} (hb : b < tF t) : farS (tP t) (lvz t a y l) (ttl t b) = nI (fN t y l a b) ∧ fN t y l a b ≤ 792 := by
  unfold wh at hw
  rw [Bool.and_eq_true] at hw
  have v2 := hV.2.1
  obtain ⟨n, hn, e⟩ := farS_nI v2 (fun i _ => lvz_nI (t := t) (f := a) (y := y) hw.2) (hV.2.2.2.2.2.2.2.1 b hb)
  unfold fN
  rw [e, uI_toNat (by omega)]
  exact ⟨rfl, by omega⟩
/-- false ones by a bar T, of those of the face a; the held of a kind -/
def foN (t : Tn) (y l : Int32) (T a : Nat) : Nat := smN (tF t) (fun b => bN (decide (¬ b = a) && decide (fN t y l a b ≤ T)))
def hdN (t : Tn) (y l : Int32) (T : Nat) (k : Int32) : Nat := smN (tF t) (fun a => bN (ofK t k a && decide (T < fN t y l a a)))
theorem smN_s0 {g : Nat → Nat} {j : Nat} (h : g j = 0) : smN (j + 1) g = smN j g := by rw [smN, h, Nat.add_zero]
theorem smN_s1 {g : Nat → Nat} {j : Nat} (h : g j = 1) : smN (j + 1) g = smN j g + 1 := by rw [smN, h]
theorem c_falseOf {t : Tn} {h : CH} {y l : Int32} {T a : Nat} (hC : CT 7 t h) (hV : VT t) (hG : GO t y l h) (hw : wh y l = true) (ha : a < tF t) (hT : T ≤ 800) : f_X3_falseOf (nI a) (nI T) h = some (nI (foN t y l T a)) := by
  have v3 := hV.2.2.1
  unfold f_X3_falseOf foN
  refine loop_FU (fun n k => f_X3_falseOf_L5 (nI a) (nI T) h n (nI (smN k (fun b => bN (decide (¬ b = a) && decide (fN t y l a b ≤ T))))) (nI k) = some (nI (smN (tF t) (fun b => bN (decide (¬ b = a) && decide (fN t y l a b ≤ T)))))) (tF t) (by omega) ?_ ?_
  · intro n b hb ih
    show f_X3_falseOf_L5 _ _ _ (n + 1) _ _ = _
    obtain ⟨e1, e2⟩ := fN_eq hV hw (a := a) hb
    rw [f_X3_falseOf_L5, hC.2.2.1]
    simp (disch := omega) only [clp_some, cl_some, jn_eq, uI_add, uI_mul, uI_lt, uI_lt0, uI_0lt, uI_eq0, uI_inj, uI_ne1, n1_ne, n1_lt, uI_lt1, rdA_nI, rdQ_nI, rdL_nI, wrA_nI, wrL_nI, wrF_eq, wrJ_eq, dvd_nI, ite_true, ite_false, if_true, if_false, bI_t, bI_f, bI_0, decide_true, decide_false, Nat.one_ne_zero, Nat.reduceEqDiff, Nat.reduceLT, Nat.reduceLeDiff, Nat.reduceAdd, Nat.reduceMul, Nat.reduceSub, Nat.reduceDiv, hb]
    rw [c_apartPic hC hV hG ha hb, clp_some, e1]
    simp only [uI_lt (show T < 2147483648 by omega) (show fN t y l a b < 2147483648 by omega)]
    by_cases c1 : b = a
    · rw [if_pos c1]
      rw [smN_s0 (by simp [c1, bN])] at ih
      exact ih
    · rw [if_neg c1]
      by_cases c2 : T < fN t y l a b
      · rw [if_pos c2]
        rw [smN_s0 (by simp [show ¬ fN t y l a b ≤ T by omega, bN])] at ih
        exact ih
      · rw [if_neg c2]
        rw [smN_s1 (by simp [c1, show fN t y l a b ≤ T by omega, bN])] at ih
        exact ih
  · intro n
    show f_X3_falseOf_L5 _ _ _ (n + 1) _ _ = _
    rw [f_X3_falseOf_L5, hC.2.2.1]
    simp (disch := omega) only [clp_some, cl_some, jn_eq, uI_add, uI_mul, uI_lt, uI_lt0, uI_0lt, uI_eq0, uI_inj, uI_ne1, n1_ne, n1_lt, uI_lt1, rdA_nI, rdQ_nI, rdL_nI, wrA_nI, wrL_nI, wrF_eq, wrJ_eq, dvd_nI, ite_true, ite_false, if_true, if_false, bI_t, bI_f, bI_0, decide_true, decide_false, Nat.one_ne_zero, Nat.reduceEqDiff, Nat.reduceLT, Nat.reduceLeDiff, Nat.reduceAdd, Nat.reduceMul, Nat.reduceSub, Nat.reduceDiv, Nat.lt_irrefl]
theorem c_heldBy {t : Tn} {h : CH} {y l : Int32} {T : Nat} (k : Int32) (hC : CT 7 t h) (hV : VT t) (hG : GO t y l h) (hw : wh y l = true) (hT : T ≤ 800) : f_X3_heldBy (nI T) k h = some (nI (hdN t y l T k)) := by
  have v3 := hV.2.2.1
  unfold f_X3_heldBy hdN
  refine loop_FU (fun n a => f_X3_heldBy_L5 (nI T) k h n (nI (smN a (fun a => bN (ofK t k a && decide (T < fN t y l a a))))) (nI a) = some (nI (smN (tF t) (fun a => bN (ofK t k a && decide (T < fN t y l a a)))))) (tF t) (by omega) ?_ ?_
  · intro n a ha ih
    show f_X3_heldBy_L5 _ _ _ (n + 1) _ _ = _
    obtain ⟨e1, e2⟩ := fN_eq hV hw (a := a) ha
    rw [f_X3_heldBy_L5, hC.2.2.1]
    simp (disch := omega) only [clp_some, cl_some, jn_eq, uI_add, uI_mul, uI_lt, uI_lt0, uI_0lt, uI_eq0, uI_inj, uI_ne1, n1_ne, n1_lt, uI_lt1, rdA_nI, rdQ_nI, rdL_nI, wrA_nI, wrL_nI, wrF_eq, wrJ_eq, dvd_nI, ite_true, ite_false, if_true, if_false, bI_t, bI_f, bI_0, decide_true, decide_false, Nat.one_ne_zero, Nat.reduceEqDiff, Nat.reduceLT, Nat.reduceLeDiff, Nat.reduceAdd, Nat.reduceMul, Nat.reduceSub, Nat.reduceDiv, ha]
    rw [c_apartPic hC hV hG ha ha, clp_some, e1, c_kindOf hC hV ha, clp_some]
    simp only [uI_lt (show T < 2147483648 by omega) (show fN t y l a a < 2147483648 by omega)]
    by_cases c1 : k = -1
    · rw [if_pos c1]
      by_cases c2 : T < fN t y l a a
      · rw [if_pos c2]
        rw [smN_s1 (by simp [c1, c2, bN, ofK])] at ih
        exact ih
      · rw [if_neg c2]
        rw [smN_s0 (by simp [c2, bN])] at ih
        exact ih
    · rw [if_neg c1]
      by_cases c3 : tkd t a = k
      · rw [if_pos c3]
        by_cases c2 : T < fN t y l a a
        · rw [if_pos c2]
          rw [smN_s1 (by simp [c2, c3, bN, ofK])] at ih
          exact ih
        · rw [if_neg c2]
          rw [smN_s0 (by simp [c2, bN])] at ih
          exact ih
      · rw [if_neg c3]
        rw [smN_s0 (by simp [c1, c3, bN, ofK])] at ih
        exact ih
  · intro n
    show f_X3_heldBy_L5 _ _ _ (n + 1) _ _ = _
    rw [f_X3_heldBy_L5, hC.2.2.1]
    simp (disch := omega) only [clp_some, cl_some, jn_eq, uI_add, uI_mul, uI_lt, uI_lt0, uI_0lt, uI_eq0, uI_inj, uI_ne1, n1_ne, n1_lt, uI_lt1, rdA_nI, rdQ_nI, rdL_nI, wrA_nI, wrL_nI, wrF_eq, wrJ_eq, dvd_nI, ite_true, ite_false, if_true, if_false, bI_t, bI_f, bI_0, decide_true, decide_false, Nat.one_ne_zero, Nat.reduceEqDiff, Nat.reduceLT, Nat.reduceLeDiff, Nat.reduceAdd, Nat.reduceMul, Nat.reduceSub, Nat.reduceDiv, Nat.lt_irrefl]
/-- by bars of the kinds: bars k, each a number up to 800 where a face has the kind -/
theorem c_falseByBars {t : Tn} {h : CH} {y l : Int32} {B : Nat → Nat} (hC : CT 7 t h) (hV : VT t) (hG : GO t y l h) (hw : wh y l = true) (hB : ∀ a, a < tF t → h.1 118 (tkd t a).toNatClampNeg = nI (B a) ∧ B a ≤ 800) : f_X3_falseByBars h = some (nI (smN (tF t) (fun a => foN t y l (B a) a))) := by
  have v3 := hV.2.2.1
  unfold f_X3_falseByBars
  refine loop_FU (fun n a => f_X3_falseByBars_L4 h n (nI (smN a (fun a => foN t y l (B a) a))) (nI a) = some (nI (smN (tF t) (fun a => foN t y l (B a) a)))) (tF t) (by omega) ?_ ?_
  · intro n a ha ih
    show f_X3_falseByBars_L4 _ (n + 1) _ _ = _
    rw [f_X3_falseByBars_L4, hC.2.2.1]
    simp (disch := omega) only [clp_some, cl_some, jn_eq, uI_add, uI_mul, uI_lt, uI_lt0, uI_0lt, uI_eq0, uI_inj, uI_ne1, n1_ne, n1_lt, uI_lt1, rdA_nI, rdQ_nI, rdL_nI, wrA_nI, wrL_nI, wrF_eq, wrJ_eq, dvd_nI, ite_true, ite_false, if_true, if_false, bI_t, bI_f, bI_0, decide_true, decide_false, Nat.one_ne_zero, Nat.reduceEqDiff, Nat.reduceLT, Nat.reduceLeDiff, Nat.reduceAdd, Nat.reduceMul, Nat.reduceSub, Nat.reduceDiv, ha]
    rw [c_kindOf hC hV ha, clp_some]
    obtain ⟨k, hk, ek⟩ := hV.2.2.2.2.2.1 a ha
    obtain ⟨b1, b2⟩ := hB a ha
    rw [ek, uI_toNat (by omega)] at b1
    have hk4 : k < 4 := by omega
    rw [ek]
    simp (disch := omega) only [clp_some, cl_some, jn_eq, uI_add, uI_mul, uI_lt, uI_lt0, uI_0lt, uI_eq0, uI_inj, uI_ne1, n1_ne, n1_lt, uI_lt1, rdA_nI, rdQ_nI, rdL_nI, wrA_nI, wrL_nI, wrF_eq, wrJ_eq, dvd_nI, ite_true, ite_false, if_true, if_false, bI_t, bI_f, bI_0, decide_true, decide_false, Nat.one_ne_zero, Nat.reduceEqDiff, Nat.reduceLT, Nat.reduceLeDiff, Nat.reduceAdd, Nat.reduceMul, Nat.reduceSub, Nat.reduceDiv, hk4, b1]
    rw [c_falseOf hC hV hG hw ha b2, clp_some, uI_add]
    exact ih
  · intro n
    show f_X3_falseByBars_L4 _ (n + 1) _ _ = _
    rw [f_X3_falseByBars_L4, hC.2.2.1]
    simp (disch := omega) only [clp_some, cl_some, jn_eq, uI_add, uI_mul, uI_lt, uI_lt0, uI_0lt, uI_eq0, uI_inj, uI_ne1, n1_ne, n1_lt, uI_lt1, rdA_nI, rdQ_nI, rdL_nI, wrA_nI, wrL_nI, wrF_eq, wrJ_eq, dvd_nI, ite_true, ite_false, if_true, if_false, bI_t, bI_f, bI_0, decide_true, decide_false, Nat.one_ne_zero, Nat.reduceEqDiff, Nat.reduceLT, Nat.reduceLeDiff, Nat.reduceAdd, Nat.reduceMul, Nat.reduceSub, Nat.reduceDiv, Nat.lt_irrefl]
def coS (t : Tn) (y l : Int32) (T : Nat) (f g : Int32) : Int32 := f * nI (smN (tF t) (fun a => foN t y l T a)) + g * nI (hdN t y l T (-1))
def S118 (a _ : Nat) : Prop := a = 118
theorem GO.bars {t : Tn} {y l : Int32} {h h' : CH} {S : Nat → Nat → Prop} (g : GO t y l h) (hF : Fr S h h') (hS : ∀ x k, x ≤ 116 → ¬ S x k) (hV : VT t) : GO t y l h' := by
  obtain ⟨g1, g2, g3⟩ := g
  have hf16 := hV.2.2.1
  refine ⟨?_, ?_, fun f hf i hi => ⟨?_, ?_⟩⟩
  · rw [hF.1 _ _ (hS _ _ (by omega))]; exact g1
  · rw [hF.1 _ _ (hS _ _ (by omega))]; exact g2
  · rw [hF.1 _ _ (hS _ _ (by omega))]; exact (g3 f hf i hi).1
  · rw [hF.1 _ _ (hS _ _ (by omega))]; exact (g3 f hf i hi).2
theorem c_costOf {t : Tn} {R : Ru} {h : CH} {y l : Int32} {T : Nat} (f g : Int32) (w : WC t R h) (hG : GO t y l h) (hw : wh y l = true) (hT : T ≤ 800) : PO TC h (f_X3_costOf (nI T) f g h) (coS t y l T f g) := by
  unfold f_X3_costOf
  have G := loop_FU (fun n k => PO TC h (f_X3_costOf_L3 (nI T) f g n (nI k) (rowS h 118 k (fun _ => nI T))) (coS t y l T f g)) 4 (by omega) ?_ ?_
  · rw [rowS_0] at G; exact G
  · intro n k hk ih
    show PO TC h (f_X3_costOf_L3 _ _ _ (n + 1) _ _) _
    rw [f_X3_costOf_L3]
    simp (disch := omega) only [clp_some, cl_some, jn_eq, uI_add, uI_mul, uI_lt, uI_lt0, uI_0lt, uI_eq0, uI_inj, uI_ne1, n1_ne, n1_lt, uI_lt1, rdA_nI, rdQ_nI, rdL_nI, wrA_nI, wrL_nI, wrF_eq, wrJ_eq, dvd_nI, ite_true, ite_false, if_true, if_false, bI_t, bI_f, bI_0, decide_true, decide_false, Nat.one_ne_zero, Nat.reduceEqDiff, Nat.reduceLT, Nat.reduceLeDiff, Nat.reduceAdd, Nat.reduceMul, Nat.reduceSub, Nat.reduceDiv, hk]
    have hs := rowS_s h 118 k (fun _ => nI T)
    rw [hs]
    exact ih
  · intro n
    show PO TC h (f_X3_costOf_L3 _ _ _ (n + 1) _ _) _
    have hF : Fr TC h (rowS h 118 4 (fun _ => nI T)) := Fr.rowS (fun _ => by unfold TC; omega)
    have hF2 : Fr S118 h (rowS h 118 4 (fun _ => nI T)) := Fr.rowS (fun _ => rfl)
    have w2 := w.tc hF
    have g2 := hG.bars hF2 (fun x k hx q => by unfold S118 at q; omega) w.1
    rw [f_X3_costOf_L3]
    simp (disch := omega) only [clp_some, cl_some, jn_eq, uI_add, uI_mul, uI_lt, uI_lt0, uI_0lt, uI_eq0, uI_inj, uI_ne1, n1_ne, n1_lt, uI_lt1, rdA_nI, rdQ_nI, rdL_nI, wrA_nI, wrL_nI, wrF_eq, wrJ_eq, dvd_nI, ite_true, ite_false, if_true, if_false, bI_t, bI_f, bI_0, decide_true, decide_false, Nat.one_ne_zero, Nat.reduceEqDiff, Nat.reduceLT, Nat.reduceLeDiff, Nat.reduceAdd, Nat.reduceMul, Nat.reduceSub, Nat.reduceDiv]
    rw [c_falseByBars (B := fun _ => T) w2.2.2.1 w.1 g2 hw (fun a ha => by
      obtain ⟨k, hk, ek⟩ := w.1.2.2.2.2.2.1 a ha
      rw [ek, uI_toNat (by omega), rowS_in (by omega)]
      exact ⟨rfl, hT⟩), clp_some, c_heldBy (-1) w2.2.2.1 w.1 g2 hw hT, clp_some]
    exact PO.mk hF
theorem m_farPic {bk : Nat} {t : Tn} {R : Ru} {h : CH} {a b : Nat} (y l : Int32) (w : WM bk t R h) (hw : wh y l = true) (ha : a < tF t) (hb : b < tF t) : ∃ h1, f_X12_layMix (nI b) (nI b) (nI 10) (-1) h = some ((), h1) ∧ Fr TM h h1 ∧ f_X12_farLive (nI a) y l h1 = some (nI (fN t y l a b)) := by
  obtain ⟨h1, e1, m1, hF1⟩ := MXm.lay (nI 10) w hb hb
  refine ⟨h1, e1, hF1, ?_⟩
  rw [m1.far ha, farS_congr (fun _ _ => rfl) (fun i hi => mix_self w.1 hb hi), (fN_eq w.1 hw hb).1]
theorem m_falseOf {bk : Nat} {t : Tn} {R : Ru} {h : CH} {a T : Nat} (y l : Int32) (w : WM bk t R h) (hw : wh y l = true) (ha : a < tF t) (hT : T ≤ 800) : PO TM h (f_X12_falseOf (nI a) (nI T) y l h) (nI (foN t y l T a)) := by
  have v3 := w.1.2.2.1
  unfold f_X12_falseOf foN
  refine loop_FU (fun n k => ∀ h2, Fr TM h h2 → PO TM h (f_X12_falseOf_L6 (nI a) (nI T) y l n (nI (smN k (fun b => bN (decide (¬ b = a) && decide (fN t y l a b ≤ T))))) (nI k) h2) (nI (smN (tF t) (fun b => bN (decide (¬ b = a) && decide (fN t y l a b ≤ T)))))) (tF t) (by omega) ?_ ?_ h Fr.rf
  · intro n b hb ih h2 hF2
    have w2 := w.tm hF2
    obtain ⟨e1, e2⟩ := fN_eq w.1 hw (a := a) hb
    rw [f_X12_falseOf_L6, m_many w2.2.2.1]
    simp (disch := omega) only [clp_some, cl_some, jn_eq, uI_add, uI_mul, uI_lt, uI_lt0, uI_0lt, uI_eq0, uI_inj, uI_ne1, n1_ne, n1_lt, uI_lt1, rdA_nI, rdQ_nI, rdL_nI, wrA_nI, wrL_nI, wrF_eq, wrJ_eq, dvd_nI, ite_true, ite_false, if_true, if_false, bI_t, bI_f, bI_0, decide_true, decide_false, Nat.one_ne_zero, Nat.reduceEqDiff, Nat.reduceLT, Nat.reduceLeDiff, Nat.reduceAdd, Nat.reduceMul, Nat.reduceSub, Nat.reduceDiv, hb]
    by_cases c1 : b = a
    · rw [if_pos c1]
      have ih2 := ih h2 hF2
      rw [smN_s0 (by simp [c1, bN])] at ih2
      exact ih2
    · rw [if_neg c1]
      obtain ⟨h3, e3, hF3, e4⟩ := m_farPic y l w2 hw ha hb
      rw [e3, cl_some, e4, clp_some]
      have ih3 := ih h3 (hF2.tr hF3)
      simp only [uI_lt (show T < 2147483648 by omega) (show fN t y l a b < 2147483648 by omega)]
      by_cases c2 : T < fN t y l a b
      · rw [if_pos c2]
        rw [smN_s0 (by simp [show ¬ fN t y l a b ≤ T by omega, bN])] at ih3
        exact ih3
      · rw [if_neg c2]
        rw [smN_s1 (by simp [c1, show fN t y l a b ≤ T by omega, bN])] at ih3
        exact ih3
  · intro n h2 hF2
    have w2 := w.tm hF2
    rw [f_X12_falseOf_L6, m_many w2.2.2.1]
    simp (disch := omega) only [clp_some, cl_some, jn_eq, uI_add, uI_mul, uI_lt, uI_lt0, uI_0lt, uI_eq0, uI_inj, uI_ne1, n1_ne, n1_lt, uI_lt1, rdA_nI, rdQ_nI, rdL_nI, wrA_nI, wrL_nI, wrF_eq, wrJ_eq, dvd_nI, ite_true, ite_false, if_true, if_false, bI_t, bI_f, bI_0, decide_true, decide_false, Nat.one_ne_zero, Nat.reduceEqDiff, Nat.reduceLT, Nat.reduceLeDiff, Nat.reduceAdd, Nat.reduceMul, Nat.reduceSub, Nat.reduceDiv, Nat.lt_irrefl]
    exact PO.mk hF2
theorem m_isHeld {bk : Nat} {t : Tn} {R : Ru} {h : CH} {a T : Nat} (y l : Int32) (w : WM bk t R h) (hw : wh y l = true) (ha : a < tF t) (hT : T ≤ 800) : PO TM h (f_X12_isHeld (nI a) (nI T) y l h) (bI (decide (T < fN t y l a a))) := by
  obtain ⟨e1, e2⟩ := fN_eq w.1 hw (a := a) ha
  unfold f_X12_isHeld
  obtain ⟨h3, e3, hF3, e4⟩ := m_farPic y l w hw ha ha
  rw [e3, cl_some, e4, clp_some]
  simp only [uI_lt (show T < 2147483648 by omega) (show fN t y l a a < 2147483648 by omega)]
  by_cases c2 : T < fN t y l a a
  · simp only [c2, if_true, decide_true]; exact PO.mk hF3
  · simp only [c2, if_false, decide_false]; exact PO.mk hF3
theorem m_costOf {bk : Nat} {t : Tn} {R : Ru} {h : CH} {T : Nat} (f g y l : Int32) (w : WM bk t R h) (hw : wh y l = true) (hT : T ≤ 800) : PO TM h (f_X12_costOf (nI T) f g y l h) (coS t y l T f g) := by
  have v3 := w.1.2.2.1
  unfold f_X12_costOf coS hdN
  have G := loop_FU (fun n k => ∀ h2, Fr TM h h2 → PO TM h (f_X12_costOf_L6 (nI T) f g y l n (f * nI (smN k (fun a => foN t y l T a)) + g * nI (smN k (fun a => bN (ofK t (-1) a && decide (T < fN t y l a a))))) (nI k) h2) (f * nI (smN (tF t) (fun a => foN t y l T a)) + g * nI (smN (tF t) (fun a => bN (ofK t (-1) a && decide (T < fN t y l a a)))))) (tF t) (by omega) ?_ ?_ h Fr.rf
  · have z : f * nI (smN 0 (fun a => foN t y l T a)) + g * nI (smN 0 (fun a => bN (ofK t (-1) a && decide (T < fN t y l a a)))) = nI 0 := by
      show f * 0 + g * 0 = 0
      rw [Int32.mul_zero, Int32.mul_zero, Int32.add_zero]
    rw [z] at G
    exact G
  · intro n a ha ih h2 hF2
    have w2 := w.tm hF2
    rw [f_X12_costOf_L6, m_many w2.2.2.1]
    simp (disch := omega) only [clp_some, cl_some, jn_eq, uI_add, uI_mul, uI_lt, uI_lt0, uI_0lt, uI_eq0, uI_inj, uI_ne1, n1_ne, n1_lt, uI_lt1, rdA_nI, rdQ_nI, rdL_nI, wrA_nI, wrL_nI, wrF_eq, wrJ_eq, dvd_nI, ite_true, ite_false, if_true, if_false, bI_t, bI_f, bI_0, decide_true, decide_false, Nat.one_ne_zero, Nat.reduceEqDiff, Nat.reduceLT, Nat.reduceLeDiff, Nat.reduceAdd, Nat.reduceMul, Nat.reduceSub, Nat.reduceDiv, ha]
    obtain ⟨h3, e3, hF3⟩ := m_falseOf y l w2 hw ha hT
    have hF3' := hF2.tr hF3
    obtain ⟨h4, e4, hF4⟩ := m_isHeld y l (w.tm hF3') hw ha hT
    have hF4' := hF3'.tr hF4
    rw [e3, cl_some, e4, cl_some, ifB]
    have ih4 := ih h4 hF4'
    have ok1 : ofK t (-1) a = true := by unfold ofK; simp
    rw [smN, smN, ← uI_add, ← uI_add, Int32.mul_add, Int32.mul_add, ok1, Bool.true_and] at ih4
    have ring : ∀ p q r s : Int32, p + r + (q + s) = p + q + (r + s) := by
      intro p q r s
      rw [Int32.add_assoc, Int32.add_assoc, ← Int32.add_assoc r q s, ← Int32.add_assoc q r s, Int32.add_comm r q]
    rw [ring] at ih4
    by_cases c2 : T < fN t y l a a
    · simp only [c2, decide_true, if_true]
      rw [show bN (decide (T < fN t y l a a)) = 1 by simp [c2, bN], show g * nI 1 = g from Int32.mul_one g] at ih4
      exact ih4
    · simp only [c2, decide_false, Bool.false_eq_true, if_false]
      rw [show bN (decide (T < fN t y l a a)) = 0 by simp [c2, bN], show g * nI 0 = nI 0 from Int32.mul_zero] at ih4
      exact ih4
  · intro n h2 hF2
    have w2 := w.tm hF2
    rw [f_X12_costOf_L6, m_many w2.2.2.1]
    simp (disch := omega) only [clp_some, cl_some, jn_eq, uI_add, uI_mul, uI_lt, uI_lt0, uI_0lt, uI_eq0, uI_inj, uI_ne1, n1_ne, n1_lt, uI_lt1, rdA_nI, rdQ_nI, rdL_nI, wrA_nI, wrL_nI, wrF_eq, wrJ_eq, dvd_nI, ite_true, ite_false, if_true, if_false, bI_t, bI_f, bI_0, decide_true, decide_false, Nat.one_ne_zero, Nat.reduceEqDiff, Nat.reduceLT, Nat.reduceLeDiff, Nat.reduceAdd, Nat.reduceMul, Nat.reduceSub, Nat.reduceDiv, Nat.lt_irrefl]
    exact PO.mk hF2
def cA (t : Tn) (T f g y l : Int32) : Int32 := if inR (nI 0) (nI 800) T = true then (if inR (nI 0) (nI 99) f = true then (if inR (nI 0) (nI 99) g = true then (if wh y l = true then coS t y l T.toNatClampNeg f g else -1) else -1) else -1) else -1
theorem c_cost {t : Tn} {R : Ru} {h : CH} (T f g y l : Int32) (w : WC t R h) : PO TC h (f_X11_cost T f g y l h) (cA t T f g y l) := by
  unfold f_X11_cost cA
  have e1 : ∀ {σ : Type} (u v : σ), (if T < 0 then u else if nI 800 < T then u else v) = (if inR (nI 0) (nI 800) T = true then v else u) := by
    intro σ u v
    unfold inR
    rw [← uI_z]
    by_cases q : T < 0
    · simp [q]
    · by_cases q2 : nI 800 < T <;> simp [q, q2]
  rw [e1]
  cases hT : inR (nI 0) (nI 800) T
  · exact PO.mk Fr.rf
  simp only [if_true]
  rw [c_isPrice, clp_some, ifB]
  cases inR (nI 0) (nI 99) f
  · exact PO.mk Fr.rf
  simp only [if_true]
  rw [c_isPrice, clp_some, ifB]
  cases inR (nI 0) (nI 99) g
  · exact PO.mk Fr.rf
  simp only [if_true]
  rw [c_isWhen, clp_some, ifB]
  cases hw : wh y l
  · exact PO.mk Fr.rf
  simp only [if_true]
  have h5 := of_decide_eq_true hT
  obtain ⟨k, hk, rfl⟩ := uI_of (x := T) h5.1
  have h6 := h5.2
  rw [uI_lt (by omega) hk] at h6
  obtain ⟨h3, e3, hF3, g3⟩ := c_open y l w.2.2.1 w.1
  rw [e3, cl_some, uI_toNat hk]
  exact PO.cl ((c_costOf f g (w.tc hF3) g3 hw (by omega)).go hF3 (fun _ _ q => q)) (fun h4 hF4 => PO.mk hF4)
theorem m_isCost (f g : Int32) (h : CH) : f_X12_isCost f g h = some (bI (inR (nI 0) (nI 99) f && inR (nI 0) (nI 99) g)) := by
  unfold f_X12_isCost
  rw [m_isIn, clp_some, m_isIn, ifB, clp_some, ifB]
  cases inR (nI 0) (nI 99) f <;> cases inR (nI 0) (nI 99) g <;> rfl
theorem m_cost {bk : Nat} {t : Tn} {R : Ru} {h : CH} (T f g y l : Int32) (w : WM bk t R h) : PO TM h (f_X12_cost T f g y l h) (cA t T f g y l) := by
  unfold f_X12_cost cA
  rw [m_isIn, clp_some, ifB]
  cases hT : inR (nI 0) (nI 800) T
  · exact PO.mk Fr.rf
  simp only [if_true]
  rw [m_isCost, clp_some, ifB]
  cases inR (nI 0) (nI 99) f
  · exact PO.mk Fr.rf
  cases inR (nI 0) (nI 99) g
  · exact PO.mk Fr.rf
  simp only [Bool.and_self, if_true]
  rw [m_isWhen, clp_some, ifB]
  cases hw : wh y l
  · exact PO.mk Fr.rf
  simp only [if_true]
  have h5 := of_decide_eq_true hT
  obtain ⟨k, hk, rfl⟩ := uI_of (x := T) h5.1
  have h6 := h5.2
  rw [uI_lt (by omega) hk] at h6
  rw [uI_toNat hk]
  exact PO.cl (m_costOf f g y l w hw (by omega)) (fun h4 hF4 => PO.mk hF4)
