/-! the reference's gate -/
theorem mx_eq (x y : Int32) {σ : Type} (f : Int32 → σ) : (if y < x then f x else f y) = f (mx x y) := by
  unfold mx
  by_cases h1 : y < x
  · have h2 : ¬ x < y := by rw [Int32.lt_iff_toInt_lt] at h1 ⊢; omega
    rw [if_pos h1, if_neg h2]
  · by_cases h2 : x < y
    · rw [if_neg h1, if_pos h2]
    · rw [if_neg h1, if_neg h2]
      congr 1
      apply Int32.toInt_inj.mp
      rw [Int32.lt_iff_toInt_lt] at h1 h2
      omega
/-- behind the laying of a picture -/
def MXm (bk : Nat) (t : Tn) (R : Ru) (g : Nat → Int32) (h : CH) : Prop := WM bk t R h ∧ ∀ i, i < tP t → h.1 176 i = g i
theorem MXm.sa {bk : Nat} {t : Tn} {R : Ru} {g : Nat → Int32} {h h' : CH} (m : MXm bk t R g h) (hF : Fr SA h h') : MXm bk t R g h' := ⟨m.1.tm (hF.mono SA_TM), fun i hi => by rw [hF.1 _ _ (by unfold SA; omega)]; exact m.2 i hi⟩
theorem MXm.pass {bk : Nat} {t : Tn} {R : Ru} {g : Nat → Int32} {h : CH} (m : MXm bk t R g h) {f : Nat} (hf : f < tF t) (y l : Int32) : PO SA h (f_X12_isPass (nI f) y l h) (bI (mpas t R y l f g)) := by
  have := m.1.2.2.2.1 h Fr.rf f hf y l
  rw [mpas_congr m.2] at this
  exact this
theorem MXm.far {bk : Nat} {t : Tn} {R : Ru} {g : Nat → Int32} {h : CH} (m : MXm bk t R g h) {f : Nat} (hf : f < tF t) (y l : Int32) : f_X12_farLive (nI f) y l h = some (farS (tP t) (lvz t f y l) g) := by
  rw [m_farLive y l m.1.2.2.1 m.1.1 hf, farS_congr (fun _ _ => rfl) m.2]
theorem MXm.lay {bk : Nat} {t : Tn} {R : Ru} {h : CH} {a b : Nat} (s : Int32) (w : WM bk t R h) (ha : a < tF t) (hb : b < tF t) : ∃ h1, f_X12_layMix (nI a) (nI b) s (-1) h = some ((), h1) ∧ MXm bk t R (mixv t a b s) h1 ∧ Fr TM h h1 := by
  have hF : Fr TM h (rowS h 176 (tP t) fun i => pri t (-1) (mixv t a b s i)) := Fr.rowS (fun _ => by unfold TM; omega)
  exact ⟨_, m_layMix s (-1) w.2.2.1 w.1 ha hb inR_no, ⟨w.tm hF, fun i hi => by rw [rowS_in hi, pri_no]⟩, hF⟩
theorem m_bestShare {bk : Nat} {t : Tn} {R : Ru} {h : CH} {a b : Nat} (y l : Int32) (w : WM bk t R h) (ha : a < tF t) (hb : b < tF t) : PO TM h (f_X12_bestShare (nI a) (nI b) y l h) (bst t R y l a b 11).1 := by
  unfold f_X12_bestShare
  refine loop_FU (fun n k => ∀ h2, Fr TM h h2 → PO TM h (f_X12_bestShare_L9 (nI a) (nI b) y l n (bst t R y l a b k).1 (bst t R y l a b k).2 (nI k) h2) (bst t R y l a b 11).1) 11 (by omega) ?_ ?_ h Fr.rf
  · intro n k hk ih h2 hF2
    have w2 := w.tm hF2
    rw [f_X12_bestShare_L9]
    have e10 : ¬ 10 < k := by omega
    simp (disch := omega) only [clp_some, cl_some, jn_eq, uI_add, uI_mul, uI_lt, uI_lt0, uI_0lt, uI_eq0, uI_inj, uI_ne1, n1_ne, n1_lt, uI_lt1, rdA_nI, rdQ_nI, rdL_nI, wrA_nI, wrL_nI, wrF_eq, wrJ_eq, dvd_nI, ite_true, ite_false, if_true, if_false, bI_t, bI_f, bI_0, decide_true, decide_false, Nat.one_ne_zero, Nat.reduceEqDiff, Nat.reduceLT, Nat.reduceLeDiff, Nat.reduceAdd, Nat.reduceMul, Nat.reduceSub, Nat.reduceDiv, e10]
    obtain ⟨h3, e3, m3, hF3⟩ := MXm.lay (nI k) w2 ha hb
    rw [e3, cl_some]
    have hF3' := hF2.tr hF3
    have go : ∀ h4, Fr TM h h4 → ¬ (bpS t R y l a b (nI k) = true ∧ ((bst t R y l a b k).1 = -1 ∨ grS t y l a b (nI k) < (bst t R y l a b k).2)) → PO TM h (f_X12_bestShare_L9 (nI a) (nI b) y l n (bst t R y l a b k).1 (bst t R y l a b k).2 (nI (k + 1)) h4) (bst t R y l a b 11).1 := by
      intro h4 hF4 hp
      have : bst t R y l a b (k + 1) = bst t R y l a b k := by rw [bst, if_neg hp]
      rw [← this]
      exact ih h4 hF4
    obtain ⟨h4, e4, hF4⟩ := m3.pass ha y l
    have m4 := m3.sa hF4
    have hF4' := hF3'.tr (hF4.mono SA_TM)
    rw [e4, cl_some, ifB]
    cases hA : mpas t R y l a (mixv t a b (nI k))
    · simp only [Bool.false_eq_true, if_false]
      exact go h4 hF4' (fun q => by have q1 := q.1; unfold bpS at q1; rw [hA] at q1; exact absurd q1 (by simp))
    · simp only [if_true]
      obtain ⟨h5, e5, hF5⟩ := m4.pass hb y l
      have m5 := m4.sa hF5
      have hF5' := hF4'.tr (hF5.mono SA_TM)
      rw [e5, cl_some, ifB]
      cases hB : mpas t R y l b (mixv t a b (nI k))
      · simp only [Bool.false_eq_true, if_false]
        exact go h5 hF5' (fun q => by have q1 := q.1; unfold bpS at q1; rw [hA, hB] at q1; exact absurd q1 (by decide))
      · simp only [if_true]
        have hp : bpS t R y l a b (nI k) = true := by unfold bpS; rw [hA, hB]; rfl
        rw [m5.far ha, clp_some, m5.far hb, clp_some]
        have e6 : (if farS (tP t) (lvz t b y l) (mixv t a b (nI k)) < farS (tP t) (lvz t a y l) (mixv t a b (nI k)) then (if (bst t R y l a b k).1 < 0 then f_X12_bestShare_L9 (nI a) (nI b) y l n (nI k) (farS (tP t) (lvz t a y l) (mixv t a b (nI k))) (nI (k + 1)) h5 else if farS (tP t) (lvz t a y l) (mixv t a b (nI k)) < (bst t R y l a b k).2 then f_X12_bestShare_L9 (nI a) (nI b) y l n (nI k) (farS (tP t) (lvz t a y l) (mixv t a b (nI k))) (nI (k + 1)) h5 else f_X12_bestShare_L9 (nI a) (nI b) y l n (bst t R y l a b k).1 (bst t R y l a b k).2 (nI (k + 1)) h5) else (if (bst t R y l a b k).1 < 0 then f_X12_bestShare_L9 (nI a) (nI b) y l n (nI k) (farS (tP t) (lvz t b y l) (mixv t a b (nI k))) (nI (k + 1)) h5 else if farS (tP t) (lvz t b y l) (mixv t a b (nI k)) < (bst t R y l a b k).2 then f_X12_bestShare_L9 (nI a) (nI b) y l n (nI k) (farS (tP t) (lvz t b y l) (mixv t a b (nI k))) (nI (k + 1)) h5 else f_X12_bestShare_L9 (nI a) (nI b) y l n (bst t R y l a b k).1 (bst t R y l a b k).2 (nI (k + 1)) h5)) = (fun z => if (bst t R y l a b k).1 < 0 then f_X12_bestShare_L9 (nI a) (nI b) y l n (nI k) z (nI (k + 1)) h5 else if z < (bst t R y l a b k).2 then f_X12_bestShare_L9 (nI a) (nI b) y l n (nI k) z (nI (k + 1)) h5 else f_X12_bestShare_L9 (nI a) (nI b) y l n (bst t R y l a b k).1 (bst t R y l a b k).2 (nI (k + 1)) h5) (grS t y l a b (nI k)) := mx_eq (farS (tP t) (lvz t a y l) (mixv t a b (nI k))) (farS (tP t) (lvz t b y l) (mixv t a b (nI k))) (fun z => if (bst t R y l a b k).1 < 0 then f_X12_bestShare_L9 (nI a) (nI b) y l n (nI k) z (nI (k + 1)) h5 else if z < (bst t R y l a b k).2 then f_X12_bestShare_L9 (nI a) (nI b) y l n (nI k) z (nI (k + 1)) h5 else f_X12_bestShare_L9 (nI a) (nI b) y l n (bst t R y l a b k).1 (bst t R y l a b k).2 (nI (k + 1)) h5)
        rw [e6]
        dsimp only
        have yes : ((bst t R y l a b k).1 = -1 ∨ grS t y l a b (nI k) < (bst t R y l a b k).2) → PO TM h (f_X12_bestShare_L9 (nI a) (nI b) y l n (nI k) (grS t y l a b (nI k)) (nI (k + 1)) h5) (bst t R y l a b 11).1 := by
          intro hc
          have : bst t R y l a b (k + 1) = (nI k, grS t y l a b (nI k)) := by rw [bst, if_pos ⟨hp, hc⟩]
          have ih4 := ih h5 hF5'
          rw [this] at ih4
          exact ih4
        simp only [bst_lt0 (show k ≤ 11 by omega)]
        by_cases c1 : (bst t R y l a b k).1 = -1
        · rw [if_pos c1]; exact yes (Or.inl c1)
        · rw [if_neg c1]
          by_cases c2 : grS t y l a b (nI k) < (bst t R y l a b k).2
          · rw [if_pos c2]; exact yes (Or.inr c2)
          · rw [if_neg c2]
            exact go h5 hF5' (fun q => q.2.elim c1 c2)
  · intro n h2 hF2
    rw [f_X12_bestShare_L9]
    simp (disch := omega) only [clp_some, cl_some, jn_eq, uI_add, uI_mul, uI_lt, uI_lt0, uI_0lt, uI_eq0, uI_inj, uI_ne1, n1_ne, n1_lt, uI_lt1, rdA_nI, rdQ_nI, rdL_nI, wrA_nI, wrL_nI, wrF_eq, wrJ_eq, dvd_nI, ite_true, ite_false, if_true, if_false, bI_t, bI_f, bI_0, decide_true, decide_false, Nat.one_ne_zero, Nat.reduceEqDiff, Nat.reduceLT, Nat.reduceLeDiff, Nat.reduceAdd, Nat.reduceMul, Nat.reduceSub, Nat.reduceDiv]
    exact PO.mk hF2
theorem bst_ifB {t : Tn} {R : Ru} {y l : Int32} {a b : Nat} {α : Type} {d : Decidable ((bst t R y l a b 11).1 < 0)} (u v : α) : (@ite _ ((bst t R y l a b 11).1 < 0) d u v) = (if ablS t R y l a b = true then v else u) := by
  have e := bst_lt0 (t := t) (R := R) (y := y) (l := l) (a := a) (b := b) (k := 11) (by omega)
  unfold ablS
  by_cases c : (bst t R y l a b 11).1 = -1
  · rw [if_pos (by rw [e]; exact c)]
    simp [c]
  · rw [if_neg (by rw [e]; exact c)]
    simp [c]
theorem m_pairs {bk : Nat} {t : Tn} {R : Ru} {h : CH} (y l : Int32) (w : WM bk t R h) : PO TM h (f_X12_pairs y l h) (if wh y l = true then prS t R y l else -1) := by
  have v3 := w.1.2.2.1
  unfold f_X12_pairs
  rw [m_isWhen, clp_some, ifB]
  cases wh y l
  · exact PO.mk Fr.rf
  simp only [if_true]
  refine loop_FU (fun n k => ∀ h2, Fr TM h h2 → PO TM h (f_X12_pairs_L15 y l n (smI k (fun a => smI (tF t - (a + 1)) (fun j => bI (ablS t R y l a (a + 1 + j))))) (nI k) h2) (prS t R y l)) (tF t) (by omega) ?_ ?_ h Fr.rf
  · intro n a ha ih h2 hF2
    have w2 := w.tm hF2
    rw [f_X12_pairs_L15, m_many w2.2.2.1]
    simp (disch := omega) only [clp_some, cl_some, jn_eq, uI_add, uI_mul, uI_lt, uI_lt0, uI_0lt, uI_eq0, uI_inj, uI_ne1, n1_ne, n1_lt, uI_lt1, rdA_nI, rdQ_nI, rdL_nI, wrA_nI, wrL_nI, wrF_eq, wrJ_eq, dvd_nI, ite_true, ite_false, if_true, if_false, bI_t, bI_f, bI_0, decide_true, decide_false, Nat.one_ne_zero, Nat.reduceEqDiff, Nat.reduceLT, Nat.reduceLeDiff, Nat.reduceAdd, Nat.reduceMul, Nat.reduceSub, Nat.reduceDiv, ha]
    generalize hx0 : smI a (fun a => smI (tF t - (a + 1)) (fun j => bI (ablS t R y l a (a + 1 + j)))) = x0
    have inner := loop_FU (fun n' j => ∀ h3, Fr TM h h3 → PO TM h (f_X12_pairs_L30 y l (nI a) (fun x1_2 h_3 => f_X12_pairs_L15 y l n x1_2 (nI (a + 1)) h_3) n' (x0 + smI j (fun j => bI (ablS t R y l a (a + 1 + j)))) (nI (a + 1 + j)) h3) (prS t R y l)) (tF t - (a + 1)) (by omega) ?_ ?_ h2 hF2
    · have e : x0 + smI 0 (fun j => bI (ablS t R y l a (a + 1 + j))) = x0 := Int32.add_zero x0
      rw [e] at inner
      exact inner
    · intro n' j hj ih' h3 hF3
      have w3 := w.tm hF3
      have hb : a + 1 + j < tF t := by omega
      rw [f_X12_pairs_L30, m_many w3.2.2.1]
      simp (disch := omega) only [clp_some, cl_some, jn_eq, uI_add, uI_mul, uI_lt, uI_lt0, uI_0lt, uI_eq0, uI_inj, uI_ne1, n1_ne, n1_lt, uI_lt1, rdA_nI, rdQ_nI, rdL_nI, wrA_nI, wrL_nI, wrF_eq, wrJ_eq, dvd_nI, ite_true, ite_false, if_true, if_false, bI_t, bI_f, bI_0, decide_true, decide_false, Nat.one_ne_zero, Nat.reduceEqDiff, Nat.reduceLT, Nat.reduceLeDiff, Nat.reduceAdd, Nat.reduceMul, Nat.reduceSub, Nat.reduceDiv, hb]
      obtain ⟨h4, e4, hF4⟩ := m_bestShare y l w3 ha hb
      have hF4' := hF3.tr hF4
      rw [e4, cl_some, bst_ifB]
      have ih4 := ih' h4 hF4'
      cases hA : ablS t R y l a (a + 1 + j)
      · simp only [Bool.false_eq_true, if_false]
        rw [sm_s0 (by rw [hA]; rfl)] at ih4
        rw [← uI_z, Int32.add_zero]
        exact ih4
      · simp only [if_true]
        rw [sm_s1 (by rw [hA]; rfl), ← Int32.add_assoc] at ih4
        exact ih4
    · intro n' h3 hF3
      have w3 := w.tm hF3
      rw [f_X12_pairs_L30, m_many w3.2.2.1]
      have hb : ¬ a + 1 + (tF t - (a + 1)) < tF t := by omega
      simp (disch := omega) only [clp_some, cl_some, jn_eq, uI_add, uI_mul, uI_lt, uI_lt0, uI_0lt, uI_eq0, uI_inj, uI_ne1, n1_ne, n1_lt, uI_lt1, rdA_nI, rdQ_nI, rdL_nI, wrA_nI, wrL_nI, wrF_eq, wrJ_eq, dvd_nI, ite_true, ite_false, if_true, if_false, bI_t, bI_f, bI_0, decide_true, decide_false, Nat.one_ne_zero, Nat.reduceEqDiff, Nat.reduceLT, Nat.reduceLeDiff, Nat.reduceAdd, Nat.reduceMul, Nat.reduceSub, Nat.reduceDiv, hb]
      rw [← hx0]
      exact ih h3 hF3
  · intro n h2 hF2
    have w2 := w.tm hF2
    rw [f_X12_pairs_L15, m_many w2.2.2.1]
    simp (disch := omega) only [clp_some, cl_some, jn_eq, uI_add, uI_mul, uI_lt, uI_lt0, uI_0lt, uI_eq0, uI_inj, uI_ne1, n1_ne, n1_lt, uI_lt1, rdA_nI, rdQ_nI, rdL_nI, wrA_nI, wrL_nI, wrF_eq, wrJ_eq, dvd_nI, ite_true, ite_false, if_true, if_false, bI_t, bI_f, bI_0, decide_true, decide_false, Nat.one_ne_zero, Nat.reduceEqDiff, Nat.reduceLT, Nat.reduceLeDiff, Nat.reduceAdd, Nat.reduceMul, Nat.reduceSub, Nat.reduceDiv, Nat.lt_irrefl]
    exact PO.mk hF2
theorem abF_ge {t : Tn} {R : Ru} {y l : Int32} {a : Nat} : ∀ d b k, k < 2147483648 → (match abF t R y l a d b (nI k) with | .inl _ => True | .inr j => ∃ k', k' ≤ k ∧ j = nI k') := by
  intro d
  induction d with
  | zero => intro b k _; exact ⟨k, Nat.le_refl _, rfl⟩
  | succ d ih =>
    intro b k hk
    rw [abF]
    cases hA : ablS t R y l a b
    · simp only [Bool.false_eq_true, if_false]
      exact ih (b + 1) k hk
    · simp only [if_true, uI_eq0 (show k < 2147483648 by omega)]
      by_cases e : k = 0
      · simp only [e, if_true]
      · simp only [e, if_false]
        have e2 : nI k + -1 = nI (k - 1) := by
          rw [← Int32.sub_eq_add_neg]
          exact uI_sub (b := 1) (by omega)
        rw [e2]
        have := ih (b + 1) (k - 1) (by omega)
        revert this
        cases abF t R y l a d (b + 1) (nI (k - 1)) with
        | inl v => exact id
        | inr j => rintro ⟨k', h1, h2⟩; exact ⟨k', by omega, h2⟩
theorem m_pair {bk : Nat} {t : Tn} {R : Ru} {h : CH} (i y l : Int32) (w : WM bk t R h) : PO TM h (f_X12_pair i y l h) (if i < 0 then -1 else if wh y l = true then paF t R y l (tF t) 0 i else -1) := by
  have v3 := w.1.2.2.1
  unfold f_X12_pair
  rw [m_isWhen, clp_some, ifB]
  cases wh y l
  · simp only [Bool.false_eq_true, if_false]
    by_cases e : i < 0
    · rw [if_pos e]; exact PO.mk Fr.rf
    · rw [if_neg e]; exact PO.mk Fr.rf
  simp only [if_true]
  by_cases e : i < 0
  · rw [if_pos e]
    show PO TM h (f_X12_pair_L16 y l (99999 + 1) i (nI 0) h) (-1)
    rw [f_X12_pair_L16, m_many w.2.2.1, clp_some, if_pos e]
    by_cases e2 : nI 0 < nI (tF t)
    · rw [if_pos e2]; exact PO.mk Fr.rf
    · rw [if_neg e2]; exact PO.mk Fr.rf
  rw [if_neg e]
  obtain ⟨k, hk, rfl⟩ := uI_of e
  have outer := loop_up (fun n a => ∀ k h2, k < 2147483648 → Fr TM h h2 → PO TM h (f_X12_pair_L16 y l n (nI k) (nI a) h2) (paF t R y l (tF t - a) a (nI k))) (tF t) ?_ ?_ FU 0 (Nat.zero_le _) (by show tF t < 100000 + 0; omega) k h hk Fr.rf
  · exact outer
  · intro n a ha ih k h2 hk hF2
    have w2 := w.tm hF2
    rw [f_X12_pair_L16, m_many w2.2.2.1]
    simp (disch := omega) only [clp_some, cl_some, jn_eq, uI_add, uI_mul, uI_lt, uI_lt0, uI_0lt, uI_eq0, uI_inj, uI_ne1, n1_ne, n1_lt, uI_lt1, rdA_nI, rdQ_nI, rdL_nI, wrA_nI, wrL_nI, wrF_eq, wrJ_eq, dvd_nI, ite_true, ite_false, if_true, if_false, bI_t, bI_f, bI_0, decide_true, decide_false, Nat.one_ne_zero, Nat.reduceEqDiff, Nat.reduceLT, Nat.reduceLeDiff, Nat.reduceAdd, Nat.reduceMul, Nat.reduceSub, Nat.reduceDiv, ha]
    have ed : tF t - a = (tF t - (a + 1)) + 1 := by omega
    rw [ed, paF]
    have inner := loop_up (fun n' b => ∀ k h3, k < 2147483648 → Fr TM h h3 → PO TM h (f_X12_pair_L36 y l (nI a) (fun x6_6 h_7 => some (nI (100 * a) + x6_6, h_7)) (fun x4_8 h_9 => f_X12_pair_L16 y l n x4_8 (nI (a + 1)) h_9) n' (nI k) (nI b) h3) (match abF t R y l a (tF t - b) b (nI k) with | .inl v => v | .inr j => paF t R y l (tF t - (a + 1)) (a + 1) j)) (tF t) ?_ ?_ FU (a + 1) (by omega) (by show tF t < 100000 + (a + 1); omega) k h2 hk hF2
    · exact inner
    · intro n' b hb ih' k h3 hk hF3
      have w3 := w.tm hF3
      rw [f_X12_pair_L36, m_many w3.2.2.1]
      simp (disch := omega) only [clp_some, cl_some, jn_eq, uI_add, uI_mul, uI_lt, uI_lt0, uI_0lt, uI_eq0, uI_inj, uI_ne1, n1_ne, n1_lt, uI_lt1, rdA_nI, rdQ_nI, rdL_nI, wrA_nI, wrL_nI, wrF_eq, wrJ_eq, dvd_nI, ite_true, ite_false, if_true, if_false, bI_t, bI_f, bI_0, decide_true, decide_false, Nat.one_ne_zero, Nat.reduceEqDiff, Nat.reduceLT, Nat.reduceLeDiff, Nat.reduceAdd, Nat.reduceMul, Nat.reduceSub, Nat.reduceDiv, hb]
      have ed2 : tF t - b = (tF t - (b + 1)) + 1 := by omega
      obtain ⟨h4, e4, hF4⟩ := m_bestShare y l w3 ha hb
      have hF4' := hF3.tr hF4
      rw [e4, cl_some, bst_ifB, ed2, abF]
      cases hA : ablS t R y l a b
      · simp only [Bool.false_eq_true, if_false]
        exact ih' k h4 hk hF4'
      · simp only [if_true, uI_eq0 hk]
        by_cases e : k = 0
        · simp only [e, if_true]
          rw [uI_mul, uI_add]
          exact PO.mk hF4'
        · simp only [e, if_false]
          have e2 : nI k + -1 = nI (k - 1) := by
            rw [← Int32.sub_eq_add_neg]
            exact uI_sub (b := 1) (by omega)
          rw [e2]
          exact ih' (k - 1) h4 (by omega) hF4'
    · intro n' k h3 hk hF3
      have w3 := w.tm hF3
      rw [f_X12_pair_L36, m_many w3.2.2.1]
      simp (disch := omega) only [clp_some, cl_some, jn_eq, uI_add, uI_mul, uI_lt, uI_lt0, uI_0lt, uI_eq0, uI_inj, uI_ne1, n1_ne, n1_lt, uI_lt1, rdA_nI, rdQ_nI, rdL_nI, wrA_nI, wrL_nI, wrF_eq, wrJ_eq, dvd_nI, ite_true, ite_false, if_true, if_false, bI_t, bI_f, bI_0, decide_true, decide_false, Nat.one_ne_zero, Nat.reduceEqDiff, Nat.reduceLT, Nat.reduceLeDiff, Nat.reduceAdd, Nat.reduceMul, Nat.reduceSub, Nat.reduceDiv, Nat.lt_irrefl]
      rw [Nat.sub_self, abF]
      exact ih k h3 hk hF3
  · intro n k h2 hk hF2
    have w2 := w.tm hF2
    rw [f_X12_pair_L16, m_many w2.2.2.1]
    simp (disch := omega) only [clp_some, cl_some, jn_eq, uI_add, uI_mul, uI_lt, uI_lt0, uI_0lt, uI_eq0, uI_inj, uI_ne1, n1_ne, n1_lt, uI_lt1, rdA_nI, rdQ_nI, rdL_nI, wrA_nI, wrL_nI, wrF_eq, wrJ_eq, dvd_nI, ite_true, ite_false, if_true, if_false, bI_t, bI_f, bI_0, decide_true, decide_false, Nat.one_ne_zero, Nat.reduceEqDiff, Nat.reduceLT, Nat.reduceLeDiff, Nat.reduceAdd, Nat.reduceMul, Nat.reduceSub, Nat.reduceDiv, Nat.lt_irrefl]
    rw [Nat.sub_self, paF]
    exact PO.mk hF2
