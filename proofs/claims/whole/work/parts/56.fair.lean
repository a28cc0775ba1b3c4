/-! bars that hold all kinds alike -/
def ctK (t : Tn) (k : Int32) : Nat := smN (tF t) (fun a => bN (decide (tkd t a = k)))
def okB (t : Tn) (y l : Int32) (d : Nat) (k : Int32) (T : Nat) : Bool := decide (hdN t y l T k * 100 ≤ d * ctK t k)
def kbF (P : Nat → Bool) : Nat → Nat → Nat
  | 0, T => T
  | d + 1, T => if P T = true then T else kbF P d (T + 1)
theorem kbF_spec (P : Nat → Bool) : ∀ d T, (∃ j, j < d ∧ P (T + j) = true) → P (kbF P d T) = true ∧ kbF P d T < T + d ∧ ∀ j, T ≤ j → j < kbF P d T → P j = false := by
  intro d
  induction d with
  | zero => rintro T ⟨j, h, -⟩; omega
  | succ d ih =>
    rintro T ⟨j, h, hj⟩
    rw [kbF]
    by_cases c : P T = true
    · rw [if_pos c]; exact ⟨c, by omega, fun j h1 h2 => by omega⟩
    · rw [if_neg c]
      have hj0 : ¬ j = 0 := fun e => c (by rw [e] at hj; exact hj)
      obtain ⟨i1, i2, i3⟩ := ih (T + 1) ⟨j - 1, by omega, by rw [show T + 1 + (j - 1) = T + j by omega]; exact hj⟩
      refine ⟨i1, by omega, fun j h1 h2 => ?_⟩
      by_cases e : j = T
      · subst e; simpa using c
      · exact i3 j (by omega) h2
def kbN (t : Tn) (y l : Int32) (d : Nat) (k : Int32) : Nat := kbF (okB t y l d k) 801 0
def kbS (t : Tn) (y l : Int32) (d : Nat) (k : Int32) : Int32 := if ctK t k = 0 then -1 else nI (kbN t y l d k)
theorem ctK_le (t : Tn) (k : Int32) : ctK t k ≤ tF t := by
  have := smN_le (n := tF t) (c := 1) (g := fun a => bN (decide (tkd t a = k))) (fun i _ => by unfold bN; split <;> omega)
  unfold ctK
  omega
theorem hdN_le (t : Tn) (y l : Int32) (T : Nat) (k : Int32) : hdN t y l T k ≤ tF t := by
  have := smN_le (n := tF t) (c := 1) (g := fun a => bN (ofK t k a && decide (T < fN t y l a a))) (fun i _ => by unfold bN; split <;> omega)
  unfold hdN
  omega
theorem hd800 {t : Tn} {y l : Int32} (hV : VT t) (hw : wh y l = true) {T : Nat} (hT : 792 ≤ T) (k : Int32) : hdN t y l T k = 0 := by
  unfold hdN
  have e : smN (tF t) (fun a => bN (ofK t k a && decide (T < fN t y l a a))) = smN (tF t) (fun _ => 0) := by
    refine smN_congr (fun a ha => ?_)
    have := (fN_eq hV hw (a := a) ha).2
    simp [show ¬ T < fN t y l a a by omega, bN]
  rw [e, smN_const]
  omega
theorem kbN_spec {t : Tn} {y l : Int32} (hV : VT t) (hw : wh y l = true) (d : Nat) (k : Int32) : okB t y l d k (kbN t y l d k) = true ∧ kbN t y l d k ≤ 800 ∧ ∀ j, j < kbN t y l d k → okB t y l d k j = false := by
  have h8 : okB t y l d k 800 = true := by unfold okB; rw [hd800 hV hw (by omega) k]; simp
  obtain ⟨i1, i2, i3⟩ := kbF_spec (okB t y l d k) 801 0 ⟨800, by omega, by rw [Nat.zero_add]; exact h8⟩
  exact ⟨i1, by unfold kbN; omega, fun j hj => i3 j (Nat.zero_le _) hj⟩
theorem kbN_is {t : Tn} {y l : Int32} (hV : VT t) (hw : wh y l = true) {d T : Nat} {k : Int32} (h1 : okB t y l d k T = true) (h2 : ∀ j, j < T → okB t y l d k j = false) : kbN t y l d k = T := by
  obtain ⟨i1, i2, i3⟩ := kbN_spec hV hw d k
  rcases Nat.lt_trichotomy (kbN t y l d k) T with g | g | g
  · rw [h2 _ g] at i1; exact absurd i1 (by decide)
  · exact g
  · rw [i3 _ g] at h1; exact absurd h1 (by decide)
theorem ok_lt {t : Tn} {y l : Int32} {d T : Nat} {k : Int32} (hV : VT t) (hd : d ≤ 100) : (nI d * nI (ctK t k) < nI (hdN t y l T k) * nI 100) = (okB t y l d k T = false) := by
  have v3 := hV.2.2.1
  have h1 := ctK_le t k
  have h2 := hdN_le t y l T k
  have b1 : d * ctK t k ≤ 100 * 16 := Nat.mul_le_mul hd (by omega)
  rw [uI_mul, uI_mul, uI_lt (by omega) (by omega)]
  unfold okB
  simp
theorem c_countOf {t : Tn} {h : CH} (k : Int32) (hC : CT 7 t h) (hV : VT t) : f_X9_countOfKind_7 k h = some (nI (ctK t k)) := by
  have v3 := hV.2.2.1
  unfold f_X9_countOfKind_7 ctK
  refine loop_FU (fun n a => f_X9_countOfKind_7_L4 k h n (nI (smN a (fun a => bN (decide (tkd t a = k))))) (nI a) = some (nI (smN (tF t) (fun a => bN (decide (tkd t a = k)))))) (tF t) (by omega) ?_ ?_
  · intro n a ha ih
    show f_X9_countOfKind_7_L4 _ _ (n + 1) _ _ = _
    rw [f_X9_countOfKind_7_L4, hC.2.2.1]
    simp (disch := omega) only [clp_some, cl_some, jn_eq, uI_add, uI_mul, uI_lt, uI_lt0, uI_0lt, uI_eq0, uI_inj, uI_ne1, n1_ne, n1_lt, uI_lt1, rdA_nI, rdQ_nI, rdL_nI, wrA_nI, wrL_nI, wrF_eq, wrJ_eq, dvd_nI, ite_true, ite_false, if_true, if_false, bI_t, bI_f, bI_0, decide_true, decide_false, Nat.one_ne_zero, Nat.reduceEqDiff, Nat.reduceLT, Nat.reduceLeDiff, Nat.reduceAdd, Nat.reduceMul, Nat.reduceSub, Nat.reduceDiv, ha]
    rw [c_kindOf hC hV ha, clp_some]
    by_cases c : tkd t a = k
    · rw [if_pos c]
      rw [smN_s1 (by simp [c, bN])] at ih
      exact ih
    · rw [if_neg c]
      rw [smN_s0 (by simp [c, bN])] at ih
      exact ih
  · intro n
    show f_X9_countOfKind_7_L4 _ _ (n + 1) _ _ = _
    rw [f_X9_countOfKind_7_L4, hC.2.2.1]
    simp (disch := omega) only [clp_some, cl_some, jn_eq, uI_add, uI_mul, uI_lt, uI_lt0, uI_0lt, uI_eq0, uI_inj, uI_ne1, n1_ne, n1_lt, uI_lt1, rdA_nI, rdQ_nI, rdL_nI, wrA_nI, wrL_nI, wrF_eq, wrJ_eq, dvd_nI, ite_true, ite_false, if_true, if_false, bI_t, bI_f, bI_0, decide_true, decide_false, Nat.one_ne_zero, Nat.reduceEqDiff, Nat.reduceLT, Nat.reduceLeDiff, Nat.reduceAdd, Nat.reduceMul, Nat.reduceSub, Nat.reduceDiv, Nat.lt_irrefl]
/-- where the held change, a face of the kind is so far -/
theorem ok_step {t : Tn} {y l : Int32} {d T : Nat} {k : Int32} (hk : ¬ k = -1) (h0 : okB t y l d k T = false) (h1 : okB t y l d k (T + 1) = true) : ∃ a, a < tF t ∧ tkd t a = k ∧ fN t y l a a = T + 1 := by
  apply Classical.byContradiction
  intro hno
  have e : hdN t y l T k = hdN t y l (T + 1) k := by
    unfold hdN
    refine smN_congr (fun a ha => ?_)
    by_cases c : tkd t a = k
    · have : ¬ fN t y l a a = T + 1 := fun q => hno ⟨a, ha, c, q⟩
      congr 2
      simp only [decide_eq_decide]
      omega
    · simp [ofK, hk, c, bN]
  unfold okB at h0 h1
  rw [e] at h0
  rw [h0] at h1
  exact absurd h1 (by decide)
theorem c_ownBar {t : Tn} {h : CH} {y l : Int32} {d : Nat} (k : Int32) (hC : CT 7 t h) (hV : VT t) (hG : GO t y l h) (hw : wh y l = true) (hd : d ≤ 100) (hk : ¬ k = -1) : f_X3_ownBar k (nI d) h = some (kbS t y l d k) := by
  have v3 := hV.2.2.1
  have h1 := ctK_le t k
  unfold f_X3_ownBar kbS
  rw [c_countOf k hC hV, clp_some, c_heldBy k hC hV hG hw (by omega), clp_some]
  simp only [uI_eq0 (show ctK t k < 2147483648 by omega), ok_lt (T := 0) hV hd]
  by_cases z : ctK t k = 0
  · rw [if_pos z, if_pos z]
  rw [if_neg z, if_neg z]
  by_cases h0t : okB t y l d k 0 = true
  · rw [if_neg (by rw [h0t]; decide), kbN_is hV hw h0t (fun j hj => absurd hj (Nat.not_lt_zero j))]
  have h0 : okB t y l d k 0 = false := by simpa using h0t
  rw [if_pos h0]
  obtain ⟨i1, i2, i3⟩ := kbN_spec hV hw d k
  generalize hT : kbN t y l d k = T at i1 i2 i3
  have hT0 : ¬ T = 0 := fun q => by rw [q] at i1; rw [i1] at h0; exact absurd h0 (by decide)
  obtain ⟨T', rfl⟩ : ∃ j, T = j + 1 := ⟨T - 1, by omega⟩
  obtain ⟨a0, ha0, ka0, fa0⟩ := ok_step hk (i3 T' (by omega)) i1
  have L := loop_FU (fun n a => ∀ m, m ≤ 800 → T' + 1 ≤ m → (a0 < a → m = T' + 1) → f_X3_ownBar_L40 k (nI d) (nI (ctK t k)) h n (nI m) (nI a) = some (nI (T' + 1))) (tF t) (by omega) ?_ ?_ 800 (Nat.le_refl _) i2 (fun q => absurd q (Nat.not_lt_zero _))
  · exact L
  · intro n a ha ih m hm hm2 hm3
    show f_X3_ownBar_L40 _ _ _ _ (n + 1) _ _ = _
    obtain ⟨e1, e2⟩ := fN_eq hV hw (a := a) ha
    rw [f_X3_ownBar_L40, hC.2.2.1]
    simp (disch := omega) only [clp_some, cl_some, jn_eq, uI_add, uI_mul, uI_lt, uI_lt0, uI_0lt, uI_eq0, uI_inj, uI_ne1, n1_ne, n1_lt, uI_lt1, rdA_nI, rdQ_nI, rdL_nI, wrA_nI, wrL_nI, wrF_eq, wrJ_eq, dvd_nI, ite_true, ite_false, if_true, if_false, bI_t, bI_f, bI_0, decide_true, decide_false, Nat.one_ne_zero, Nat.reduceEqDiff, Nat.reduceLT, Nat.reduceLeDiff, Nat.reduceAdd, Nat.reduceMul, Nat.reduceSub, Nat.reduceDiv, ha]
    rw [c_apartPic hC hV hG ha ha, clp_some, e1, c_kindOf hC hV ha, clp_some]
    simp only [uI_lt (show fN t y l a a < 2147483648 by omega) (show m < 2147483648 by omega)]
    by_cases c1 : tkd t a = k
    · rw [if_pos c1]
      by_cases c2 : fN t y l a a < m
      · rw [if_pos c2, c_heldBy k hC hV hG hw (by omega), clp_some]
        have e9 := ok_lt (y := y) (l := l) (T := fN t y l a a) (k := k) hV hd
        rw [uI_mul, uI_mul] at e9
        rw [uI_mul]
        simp only [e9]
        by_cases c3 : okB t y l d k (fN t y l a a) = false
        · rw [if_pos c3]
          refine ih m hm hm2 (fun q => ?_)
          by_cases e : a = a0
          · rw [e, fa0, i1] at c3; exact absurd c3 (by decide)
          · exact hm3 (by omega)
        · rw [if_neg c3]
          have c4 : T' + 1 ≤ fN t y l a a := by
            apply Nat.le_of_not_lt
            intro q
            exact c3 (i3 _ q)
          refine ih (fN t y l a a) (by omega) c4 (fun q => ?_)
          by_cases e : a = a0
          · rw [e]; exact fa0
          · have := hm3 (by omega); omega
      · rw [if_neg c2]
        refine ih m hm hm2 (fun q => ?_)
        by_cases e : a = a0
        · rw [e, fa0] at c2; omega
        · exact hm3 (by omega)
    · rw [if_neg c1]
      refine ih m hm hm2 (fun q => ?_)
      by_cases e : a = a0
      · rw [e] at c1; exact absurd ka0 c1
      · exact hm3 (by omega)
  · intro n m hm hm2 hm3
    show f_X3_ownBar_L40 _ _ _ _ (n + 1) _ _ = _
    rw [f_X3_ownBar_L40, hC.2.2.1]
    simp (disch := omega) only [clp_some, cl_some, jn_eq, uI_add, uI_mul, uI_lt, uI_lt0, uI_0lt, uI_eq0, uI_inj, uI_ne1, n1_ne, n1_lt, uI_lt1, rdA_nI, rdQ_nI, rdL_nI, wrA_nI, wrL_nI, wrF_eq, wrJ_eq, dvd_nI, ite_true, ite_false, if_true, if_false, bI_t, bI_f, bI_0, decide_true, decide_false, Nat.one_ne_zero, Nat.reduceEqDiff, Nat.reduceLT, Nat.reduceLeDiff, Nat.reduceAdd, Nat.reduceMul, Nat.reduceSub, Nat.reduceDiv, Nat.lt_irrefl]
    rw [hm3 ha0]
theorem m_kindBar {bk : Nat} {t : Tn} {R : Ru} {h : CH} {d : Nat} (k y l : Int32) (w : WM bk t R h) (hw : wh y l = true) (hd : d ≤ 100) (hk : ¬ k = -1) : PO TM h (f_X12_kindBar k (nI d) y l h) (kbS t y l d k) := by
  have v3 := w.1.2.2.1
  have h1 := ctK_le t k
  unfold f_X12_kindBar
  obtain ⟨i1, i2, i3⟩ := kbN_spec w.1 hw d k
  have go : ∀ n T, T ≤ kbN t y l d k → kbN t y l d k < n + T → ∀ h2, Fr TM h h2 → PO TM h (f_X12_kindBar_L3 k (nI d) y l n (nI T) h2) (kbS t y l d k) := by
    intro n
    induction n with
    | zero => intro T a b; omega
    | succ n ih =>
      intro T hT hn h2 hF2
      rw [f_X12_kindBar_L3]
      have h8 : ¬ 800 < T := by omega
      simp (disch := omega) only [clp_some, cl_some, jn_eq, uI_add, uI_mul, uI_lt, uI_lt0, uI_0lt, uI_eq0, uI_inj, uI_ne1, n1_ne, n1_lt, uI_lt1, rdA_nI, rdQ_nI, rdL_nI, wrA_nI, wrL_nI, wrF_eq, wrJ_eq, dvd_nI, ite_true, ite_false, if_true, if_false, bI_t, bI_f, bI_0, decide_true, decide_false, Nat.one_ne_zero, Nat.reduceEqDiff, Nat.reduceLT, Nat.reduceLeDiff, Nat.reduceAdd, Nat.reduceMul, Nat.reduceSub, Nat.reduceDiv, h8]
      have inner := loop_FU (fun n' A => ∀ h3, Fr TM h h3 → PO TM h (f_X12_kindBar_L20 k (nI d) y l (nI T) (fun x6_2 x7_3 h_4 => if x6_2 = 0 then some (-1, h_4) else if nI d * x6_2 < x7_3 * nI 100 then f_X12_kindBar_L3 k (nI d) y l n (nI (T + 1)) h_4 else some (nI T, h_4)) n' (nI (smN A (fun a => bN (decide (tkd t a = k))))) (nI (smN A (fun a => bN (ofK t k a && decide (T < fN t y l a a))))) (nI A) h3) (kbS t y l d k)) (tF t) (by omega) ?_ ?_ h2 hF2
      · exact inner
      · intro n' a ha ih' h3 hF3
        have w3 := w.tm hF3
        rw [f_X12_kindBar_L20, m_many w3.2.2.1]
        simp (disch := omega) only [clp_some, cl_some, jn_eq, uI_add, uI_mul, uI_lt, uI_lt0, uI_0lt, uI_eq0, uI_inj, uI_ne1, n1_ne, n1_lt, uI_lt1, rdA_nI, rdQ_nI, rdL_nI, wrA_nI, wrL_nI, wrF_eq, wrJ_eq, dvd_nI, ite_true, ite_false, if_true, if_false, bI_t, bI_f, bI_0, decide_true, decide_false, Nat.one_ne_zero, Nat.reduceEqDiff, Nat.reduceLT, Nat.reduceLeDiff, Nat.reduceAdd, Nat.reduceMul, Nat.reduceSub, Nat.reduceDiv, ha]
        rw [m_kd w3.2.2.1 w.1 ha]
        by_cases c1 : tkd t a = k
        · rw [if_pos c1]
          obtain ⟨h4, e4, hF4⟩ := m_isHeld (T := T) y l w3 hw ha (by omega)
          rw [e4, cl_some, ifB]
          have ih4 := ih' h4 (hF3.tr hF4)
          rw [smN_s1 (by simp [c1, bN]), smN] at ih4
          by_cases c2 : T < fN t y l a a
          · simp only [c2, decide_true, if_true]
            rw [show bN (ofK t k a && decide (T < fN t y l a a)) = 1 by simp [ofK, c1, c2, bN]] at ih4
            simpa (disch := omega) only [clp_some, cl_some, jn_eq, uI_add, uI_mul, uI_lt, uI_lt0, uI_0lt, uI_eq0, uI_inj, uI_ne1, n1_ne, n1_lt, uI_lt1, rdA_nI, rdQ_nI, rdL_nI, wrA_nI, wrL_nI, wrF_eq, wrJ_eq, dvd_nI, ite_true, ite_false, if_true, if_false, bI_t, bI_f, bI_0, decide_true, decide_false, Nat.one_ne_zero, Nat.reduceEqDiff, Nat.reduceLT, Nat.reduceLeDiff, Nat.reduceAdd, Nat.reduceMul, Nat.reduceSub, Nat.reduceDiv] using ih4
          · simp only [c2, decide_false, Bool.false_eq_true, if_false]
            rw [show bN (ofK t k a && decide (T < fN t y l a a)) = 0 by simp [c2, bN]] at ih4
            simpa (disch := omega) only [clp_some, cl_some, jn_eq, uI_add, uI_mul, uI_lt, uI_lt0, uI_0lt, uI_eq0, uI_inj, uI_ne1, n1_ne, n1_lt, uI_lt1, rdA_nI, rdQ_nI, rdL_nI, wrA_nI, wrL_nI, wrF_eq, wrJ_eq, dvd_nI, ite_true, ite_false, if_true, if_false, bI_t, bI_f, bI_0, decide_true, decide_false, Nat.one_ne_zero, Nat.reduceEqDiff, Nat.reduceLT, Nat.reduceLeDiff, Nat.reduceAdd, Nat.reduceMul, Nat.reduceSub, Nat.reduceDiv] using ih4
        · rw [if_neg c1]
          have ih4 := ih' h3 hF3
          rw [smN_s0 (by simp [c1, bN]), smN_s0 (by simp [ofK, hk, c1, bN])] at ih4
          exact ih4
      · intro n' h3 hF3
        have w3 := w.tm hF3
        rw [f_X12_kindBar_L20, m_many w3.2.2.1]
        simp (disch := omega) only [clp_some, cl_some, jn_eq, uI_add, uI_mul, uI_lt, uI_lt0, uI_0lt, uI_eq0, uI_inj, uI_ne1, n1_ne, n1_lt, uI_lt1, rdA_nI, rdQ_nI, rdL_nI, wrA_nI, wrL_nI, wrF_eq, wrJ_eq, dvd_nI, ite_true, ite_false, if_true, if_false, bI_t, bI_f, bI_0, decide_true, decide_false, Nat.one_ne_zero, Nat.reduceEqDiff, Nat.reduceLT, Nat.reduceLeDiff, Nat.reduceAdd, Nat.reduceMul, Nat.reduceSub, Nat.reduceDiv, Nat.lt_irrefl]
        have ec : smN (tF t) (fun a => bN (decide (tkd t a = k))) = ctK t k := rfl
        have eh : smN (tF t) (fun a => bN (ofK t k a && decide (T < fN t y l a a))) = hdN t y l T k := rfl
        rw [ec, eh]
        have e9 := ok_lt (y := y) (l := l) (T := T) (k := k) w.1 hd
        rw [uI_mul, uI_mul] at e9
        simp only [e9, uI_eq0 (show ctK t k < 2147483648 by omega)]
        unfold kbS
        by_cases z : ctK t k = 0
        · rw [if_pos z, if_pos z]; exact PO.mk hF3
        · rw [if_neg z, if_neg z]
          by_cases c : okB t y l d k T = false
          · rw [if_pos c]
            have hne : ¬ T = kbN t y l d k := fun e => by rw [e, i1] at c; exact absurd c (by decide)
            have := ih (T + 1) (by omega) (by omega) h3 hF3
            unfold kbS at this
            rw [if_neg z] at this
            exact this
          · rw [if_neg c]
            have : kbN t y l d k = T := kbN_is w.1 hw (by simpa using c) (fun j hj => i3 j (by omega))
            rw [this]
            exact PO.mk hF3
  exact go FU 0 (Nat.zero_le _) (by show kbN t y l d k < 100000 + 0; omega) h Fr.rf
theorem kd4 {t : Tn} (hV : VT t) {a : Nat} (ha : a < tF t) : ∃ k, k < 4 ∧ tkd t a = nI k := by
  obtain ⟨k, hk, e⟩ := hV.2.2.2.2.2.1 a ha
  exact ⟨k, by omega, e⟩
theorem ctK_pos {t : Tn} {a : Nat} (ha : a < tF t) : ¬ ctK t (tkd t a) = 0 := by
  have key : ∀ n, a < n → 1 ≤ smN n (fun b => bN (decide (tkd t b = tkd t a))) := by
    intro n
    induction n with
    | zero => intro h; omega
    | succ n ih =>
      intro h
      rw [smN]
      by_cases e : a = n
      · subst e; simp [bN]
      · have := ih (by omega); omega
  have := key (tF t) ha
  unfold ctK
  omega
/-- all false ones together, each by its kind's bar -/
def faN (t : Tn) (y l : Int32) (d : Nat) : Nat := smN (tF t) (fun a => foN t y l (kbN t y l d (tkd t a)) a)
theorem c_falseOwn {t : Tn} {R : Ru} {h : CH} {y l : Int32} {d : Nat} (w : WC t R h) (hG : GO t y l h) (hw : wh y l = true) (hd : d ≤ 100) : PO TC h (f_X3_falseByOwnBars (nI d) h) (nI (faN t y l d)) := by
  unfold f_X3_falseByOwnBars
  have hF : ∀ k, Fr TC h (rowS h 118 k (fun k => kbS t y l d (nI k))) := fun k => Fr.rowS (fun _ => by unfold TC; omega)
  have hF2 : ∀ k, Fr S118 h (rowS h 118 k (fun k => kbS t y l d (nI k))) := fun k => Fr.rowS (fun _ => rfl)
  have G := loop_FU (fun n k => PO TC h (f_X3_falseByOwnBars_L2 (nI d) n (nI k) (rowS h 118 k (fun k => kbS t y l d (nI k)))) (nI (faN t y l d))) 4 (by omega) ?_ ?_
  · rw [rowS_0] at G; exact G
  · intro n k hk ih
    show PO TC h (f_X3_falseByOwnBars_L2 _ (n + 1) _ _) _
    have w2 := w.tc (hF k)
    have g2 := hG.bars (hF2 k) (fun x k hx q => by unfold S118 at q; omega) w.1
    rw [f_X3_falseByOwnBars_L2]
    simp (disch := omega) only [clp_some, cl_some, jn_eq, uI_add, uI_mul, uI_lt, uI_lt0, uI_0lt, uI_eq0, uI_inj, uI_ne1, n1_ne, n1_lt, uI_lt1, rdA_nI, rdQ_nI, rdL_nI, wrA_nI, wrL_nI, wrF_eq, wrJ_eq, dvd_nI, ite_true, ite_false, if_true, if_false, bI_t, bI_f, bI_0, decide_true, decide_false, Nat.one_ne_zero, Nat.reduceEqDiff, Nat.reduceLT, Nat.reduceLeDiff, Nat.reduceAdd, Nat.reduceMul, Nat.reduceSub, Nat.reduceDiv, hk]
    rw [c_ownBar (nI k) w2.2.2.1 w.1 g2 hw hd (by rw [uI_ne1 (by omega)]; exact id), clp_some]
    have hs := rowS_s h 118 k (fun k => kbS t y l d (nI k))
    rw [hs]
    exact ih
  · intro n
    show PO TC h (f_X3_falseByOwnBars_L2 _ (n + 1) _ _) _
    have w2 := w.tc (hF 4)
    have g2 := hG.bars (hF2 4) (fun x k hx q => by unfold S118 at q; omega) w.1
    rw [f_X3_falseByOwnBars_L2]
    simp (disch := omega) only [clp_some, cl_some, jn_eq, uI_add, uI_mul, uI_lt, uI_lt0, uI_0lt, uI_eq0, uI_inj, uI_ne1, n1_ne, n1_lt, uI_lt1, rdA_nI, rdQ_nI, rdL_nI, wrA_nI, wrL_nI, wrF_eq, wrJ_eq, dvd_nI, ite_true, ite_false, if_true, if_false, bI_t, bI_f, bI_0, decide_true, decide_false, Nat.one_ne_zero, Nat.reduceEqDiff, Nat.reduceLT, Nat.reduceLeDiff, Nat.reduceAdd, Nat.reduceMul, Nat.reduceSub, Nat.reduceDiv]
    rw [c_falseByBars (B := fun a => kbN t y l d (tkd t a)) w2.2.2.1 w.1 g2 hw (fun a ha => by
      have cp := ctK_pos ha
      obtain ⟨k, hk, ek⟩ := kd4 w.1 ha
      rw [ek] at cp ⊢
      rw [uI_toNat (by omega), rowS_in hk]
      unfold kbS
      rw [if_neg cp]
      exact ⟨rfl, (kbN_spec w.1 hw d (nI k)).2.1⟩), clp_some]
    exact PO.mk (hF 4)
def fiA (t : Tn) (d y l what : Int32) : Int32 := if inR (nI 0) (nI 100) d = true then (if wh y l = true then (if inR (nI 0) (nI 4) what = true then (if what < nI 4 then kbS t y l d.toNatClampNeg what else nI (faN t y l d.toNatClampNeg)) else -1) else -1) else -1
theorem inR_if {n : Nat} {x : Int32} {σ : Type} (u v : σ) : (if x < 0 then u else if nI n < x then u else v) = (if inR (nI 0) (nI n) x = true then v else u) := by
  unfold inR
  rw [← uI_z]
  by_cases q : x < 0
  · simp [q]
  · by_cases q2 : nI n < x <;> simp [q, q2]
theorem inR_nI {n : Nat} {x : Int32} (hn : n < 2147483648) (h : inR (nI 0) (nI n) x = true) : ∃ k, k ≤ n ∧ x = nI k := by
  have h5 := of_decide_eq_true h
  obtain ⟨k, hk, rfl⟩ := uI_of (x := x) h5.1
  have h6 := h5.2
  rw [uI_lt hn hk] at h6
  exact ⟨k, by omega, rfl⟩
theorem c_fair {t : Tn} {R : Ru} {h : CH} (d y l what : Int32) (w : WC t R h) : PO TC h (f_X11_fair d y l what h) (fiA t d y l what) := by
  unfold f_X11_fair fiA
  rw [inR_if]
  cases hd : inR (nI 0) (nI 100) d
  · exact PO.mk Fr.rf
  simp only [if_true]
  rw [c_isWhen, clp_some, ifB]
  cases hw : wh y l
  · exact PO.mk Fr.rf
  simp only [if_true]
  rw [inR_if]
  cases hq : inR (nI 0) (nI 4) what
  · exact PO.mk Fr.rf
  simp only [if_true]
  obtain ⟨q, hq4, rfl⟩ := inR_nI (by omega) hq
  obtain ⟨e, he, rfl⟩ := inR_nI (by omega) hd
  obtain ⟨h3, e3, hF3, g3⟩ := c_open y l w.2.2.1 w.1
  have w3 := w.tc hF3
  rw [e3, cl_some, uI_toNat (by omega)]
  simp only [uI_lt (show q < 2147483648 by omega) (show 4 < 2147483648 by omega)]
  by_cases c : q < 4
  · rw [if_pos c, if_pos c, c_ownBar (nI q) w3.2.2.1 w.1 g3 hw he (by rw [uI_ne1 (by omega)]; exact id), clp_some]
    exact PO.mk hF3
  · rw [if_neg c, if_neg c]
    exact PO.cl ((c_falseOwn w3 g3 hw he).go hF3 (fun _ _ q => q)) (fun h4 hF4 => PO.mk hF4)
theorem m_fair {bk : Nat} {t : Tn} {R : Ru} {h : CH} (d y l what : Int32) (w : WM bk t R h) : PO TM h (f_X12_fair d y l what h) (fiA t d y l what) := by
  have v3 := w.1.2.2.1
  unfold f_X12_fair fiA
  rw [m_isIn, clp_some, ifB]
  cases hd : inR (nI 0) (nI 100) d
  · exact PO.mk Fr.rf
  simp only [if_true]
  rw [m_isWhen, clp_some, ifB]
  cases hw : wh y l
  · exact PO.mk Fr.rf
  simp only [if_true]
  rw [m_isIn, clp_some, ifB]
  cases hq : inR (nI 0) (nI 4) what
  · exact PO.mk Fr.rf
  simp only [if_true]
  obtain ⟨q, hq4, rfl⟩ := inR_nI (by omega) hq
  obtain ⟨e, he, rfl⟩ := inR_nI (by omega) hd
  rw [uI_toNat (by omega)]
  simp only [uI_lt (show q < 2147483648 by omega) (show 4 < 2147483648 by omega)]
  by_cases c : q < 4
  · rw [if_pos c, if_pos c]
    exact PO.cl (m_kindBar (nI q) y l w hw he (by rw [uI_ne1 (by omega)]; exact id)) (fun h4 hF4 => PO.mk hF4)
  rw [if_neg c, if_neg c]
  have eall : faN t y l e = smN 4 (fun k => smN (tF t) (fun a => if tkd t a = nI k then foN t y l (kbN t y l e (nI k)) a else 0)) := by
    rw [smN_swap (fun a k => if tkd t a = nI k then foN t y l (kbN t y l e (nI k)) a else 0) (tF t)]
    refine smN_congr (fun a ha => ?_)
    obtain ⟨k, hk, ek⟩ := kd4 w.1 ha
    rw [ek]
    have : k = 0 ∨ k = 1 ∨ k = 2 ∨ k = 3 := by omega
    have n01 : ∀ i j : Nat, i < 4 → j < 4 → ((nI i = nI j) = (i = j)) := fun i j hi hj => uI_inj (by omega) (by omega)
    simp only [smN]
    rcases this with rfl | rfl | rfl | rfl <;> simp [n01]
  rw [eall]
  refine loop_FU (fun n k => ∀ h2, Fr TM h h2 → PO TM h (f_X12_fair_L52 (nI e) y l n (nI (smN k (fun k => smN (tF t) (fun a => if tkd t a = nI k then foN t y l (kbN t y l e (nI k)) a else 0)))) (nI k) h2) (nI (smN 4 (fun k => smN (tF t) (fun a => if tkd t a = nI k then foN t y l (kbN t y l e (nI k)) a else 0))))) 4 (by omega) ?_ ?_ h Fr.rf
  · intro n k hk ih h2 hF2
    have w2 := w.tm hF2
    rw [f_X12_fair_L52]
    simp (disch := omega) only [clp_some, cl_some, jn_eq, uI_add, uI_mul, uI_lt, uI_lt0, uI_0lt, uI_eq0, uI_inj, uI_ne1, n1_ne, n1_lt, uI_lt1, rdA_nI, rdQ_nI, rdL_nI, wrA_nI, wrL_nI, wrF_eq, wrJ_eq, dvd_nI, ite_true, ite_false, if_true, if_false, bI_t, bI_f, bI_0, decide_true, decide_false, Nat.one_ne_zero, Nat.reduceEqDiff, Nat.reduceLT, Nat.reduceLeDiff, Nat.reduceAdd, Nat.reduceMul, Nat.reduceSub, Nat.reduceDiv, hk]
    obtain ⟨h3, e3, hF3⟩ := m_kindBar (nI k) y l w2 hw he (by rw [uI_ne1 (by omega)]; exact id)
    have hF3' := hF2.tr hF3
    rw [e3, cl_some]
    generalize hx0 : smN k (fun k => smN (tF t) (fun a => if tkd t a = nI k then foN t y l (kbN t y l e (nI k)) a else 0)) = x0
    have inner := loop_FU (fun n' A => ∀ h4, Fr TM h h4 → PO TM h (f_X12_fair_L72 (nI e) y l (nI k) (kbS t y l e (nI k)) (fun x5_13 h_14 => f_X12_fair_L52 (nI e) y l n x5_13 (nI (k + 1)) h_14) n' (nI (x0 + smN A (fun a => if tkd t a = nI k then foN t y l (kbN t y l e (nI k)) a else 0))) (nI A) h4) (nI (smN 4 (fun k => smN (tF t) (fun a => if tkd t a = nI k then foN t y l (kbN t y l e (nI k)) a else 0))))) (tF t) (by omega) ?_ ?_ h3 hF3'
    · exact inner
    · intro n' a ha ih' h4 hF4
      have w4 := w.tm hF4
      rw [f_X12_fair_L72, m_many w4.2.2.1]
      simp (disch := omega) only [clp_some, cl_some, jn_eq, uI_add, uI_mul, uI_lt, uI_lt0, uI_0lt, uI_eq0, uI_inj, uI_ne1, n1_ne, n1_lt, uI_lt1, rdA_nI, rdQ_nI, rdL_nI, wrA_nI, wrL_nI, wrF_eq, wrJ_eq, dvd_nI, ite_true, ite_false, if_true, if_false, bI_t, bI_f, bI_0, decide_true, decide_false, Nat.one_ne_zero, Nat.reduceEqDiff, Nat.reduceLT, Nat.reduceLeDiff, Nat.reduceAdd, Nat.reduceMul, Nat.reduceSub, Nat.reduceDiv, ha]
      rw [m_kd w4.2.2.1 w.1 ha]
      by_cases c1 : tkd t a = nI k
      · rw [if_pos c1]
        have cp := ctK_pos ha
        rw [c1] at cp
        have eb : kbS t y l e (nI k) = nI (kbN t y l e (nI k)) := by unfold kbS; rw [if_neg cp]
        obtain ⟨h5, e5, hF5⟩ := m_falseOf (T := kbN t y l e (nI k)) y l w4 hw ha (kbN_spec w.1 hw e (nI k)).2.1
        have ih5 := ih' h5 (hF4.tr hF5)
        rw [smN, ← Nat.add_assoc, if_pos c1] at ih5
        rw [eb] at ih5 ⊢
        rw [e5, cl_some, uI_add]
        exact ih5
      · rw [if_neg c1]
        have ih5 := ih' h4 hF4
        rw [smN_s0 (by rw [if_neg c1])] at ih5
        exact ih5
    · intro n' h4 hF4
      have w4 := w.tm hF4
      rw [f_X12_fair_L72, m_many w4.2.2.1]
      simp (disch := omega) only [clp_some, cl_some, jn_eq, uI_add, uI_mul, uI_lt, uI_lt0, uI_0lt, uI_eq0, uI_inj, uI_ne1, n1_ne, n1_lt, uI_lt1, rdA_nI, rdQ_nI, rdL_nI, wrA_nI, wrL_nI, wrF_eq, wrJ_eq, dvd_nI, ite_true, ite_false, if_true, if_false, bI_t, bI_f, bI_0, decide_true, decide_false, Nat.one_ne_zero, Nat.reduceEqDiff, Nat.reduceLT, Nat.reduceLeDiff, Nat.reduceAdd, Nat.reduceMul, Nat.reduceSub, Nat.reduceDiv, Nat.lt_irrefl]
      have := ih h4 hF4
      rw [smN, hx0] at this
      exact this
  · intro n h2 hF2
    rw [f_X12_fair_L52]
    simp (disch := omega) only [clp_some, cl_some, jn_eq, uI_add, uI_mul, uI_lt, uI_lt0, uI_0lt, uI_eq0, uI_inj, uI_ne1, n1_ne, n1_lt, uI_lt1, rdA_nI, rdQ_nI, rdL_nI, wrA_nI, wrL_nI, wrF_eq, wrJ_eq, dvd_nI, ite_true, ite_false, if_true, if_false, bI_t, bI_f, bI_0, decide_true, decide_false, Nat.one_ne_zero, Nat.reduceEqDiff, Nat.reduceLT, Nat.reduceLeDiff, Nat.reduceAdd, Nat.reduceMul, Nat.reduceSub, Nat.reduceDiv]
    exact PO.mk hF2
