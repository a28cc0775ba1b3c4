/-! face, far, measure -/
def fcA (t : Tn) (x i y : Int32) : Int32 := if isF (tF t) x = true then (if isF (tP t) i = true then (if inR (nI 0) (nI 60) y = true then mz t x.toNatClampNeg i.toNatClampNeg y else -1) else -1) else -1
theorem isF_if {F : Nat} {x : Int32} {σ : Type} (u v : σ) : (if x < 0 then u else if x < nI F then v else u) = (if isF F x = true then v else u) := by
  unfold isF
  by_cases h1 : x < 0
  · simp [h1]
  · by_cases h2 : x < nI F <;> simp [h1, h2]
theorem c_face {t : Tn} {h : CH} (x i y : Int32) (hC : CT 7 t h) (hV : VT t) : f_X11_face x i y h = some (fcA t x i y) := by
  have v2 := hV.2.1
  have v3 := hV.2.2.1
  unfold f_X11_face fcA
  rw [c_has x hC.2.2.1 v3, clp_some, ifB, hC.1, isF_if]
  cases hx : isF (tF t) x
  · rfl
  simp only [if_true]
  cases hi : isF (tP t) i
  · rfl
  simp only [if_true]
  rw [c_isYear, clp_some, ifB]
  cases inR (nI 0) (nI 60) y
  · rfl
  simp only [if_true]
  obtain ⟨f, hf, rfl⟩ := isF_of hx (by omega)
  obtain ⟨j, hj, rfl⟩ := isF_of hi (by omega)
  rw [c_measureIn y hC hV hf hj, clp_some, uI_toNat (by omega), uI_toNat (by omega)]
theorem m_face {bk : Nat} {t : Tn} {h : CH} (x i y : Int32) (hM : MT bk t h) (hV : VT t) : f_X12_face x i y h = some (fcA t x i y) := by
  have v2 := hV.2.1
  have v3 := hV.2.2.1
  unfold f_X12_face fcA
  rw [m_isFace hM hV, clp_some, ifB]
  cases hx : isF (tF t) x
  · rfl
  simp only [if_true]
  rw [m_pointMany hM, clp_some, m_isIn, clp_some, inR_F (by omega), ifB]
  cases hi : isF (tP t) i
  · rfl
  simp only [if_true]
  rw [m_isIn, clp_some, ifB]
  cases inR (nI 0) (nI 60) y
  · rfl
  simp only [if_true]
  obtain ⟨f, hf, rfl⟩ := isF_of hx (by omega)
  obtain ⟨j, hj, rfl⟩ := isF_of hi (by omega)
  rw [m_measureOf y hM hV hf hj, clp_some, uI_toNat (by omega), uI_toNat (by omega)]
def faA (t : Tn) (a ya b yb : Int32) : Int32 := if isF (tF t) a = true then (if isF (tF t) b = true then (if inR (nI 0) (nI 60) ya = true then (if inR (nI 0) (nI 60) yb = true then farS (tP t) (fun i => mz t a.toNatClampNeg i ya) (fun i => mz t b.toNatClampNeg i yb) else -1) else -1) else -1) else -1
theorem c_far {t : Tn} {h : CH} (a ya b yb : Int32) (hC : CT 7 t h) (hV : VT t) : f_X11_far a ya b yb h = some (faA t a ya b yb) := by
  have v2 := hV.2.1
  have v3 := hV.2.2.1
  unfold f_X11_far faA
  rw [c_has a hC.2.2.1 v3, clp_some, ifB]
  cases ha : isF (tF t) a
  · rfl
  simp only [if_true]
  rw [c_has b hC.2.2.1 v3, clp_some, ifB]
  cases hb : isF (tF t) b
  · rfl
  simp only [if_true]
  rw [c_isYear, clp_some, ifB]
  cases inR (nI 0) (nI 60) ya
  · rfl
  simp only [if_true]
  rw [c_isYear, clp_some, ifB]
  cases inR (nI 0) (nI 60) yb
  · rfl
  simp only [if_true]
  obtain ⟨f, hf, rfl⟩ := isF_of ha (by omega)
  obtain ⟨g, hg, rfl⟩ := isF_of hb (by omega)
  rw [uI_toNat (by omega), uI_toNat (by omega)]
  unfold farS
  refine loop_FU (fun n k => f_X11_far_L45 (nI f) ya (nI g) yb h n (smI k (fun i => ab (mz t f i ya - mz t g i yb))) (nI k) = some (smI (tP t) (fun i => ab (mz t f i ya - mz t g i yb)))) (tP t) (by omega) ?_ ?_
  · intro n k hk ih
    show f_X11_far_L45 _ _ _ _ _ (n + 1) _ _ = _
    rw [f_X11_far_L45, hC.1]
    simp (disch := omega) only [clp_some, cl_some, jn_eq, uI_add, uI_mul, uI_lt, uI_lt0, uI_0lt, uI_eq0, uI_inj, uI_ne1, n1_ne, n1_lt, uI_lt1, rdA_nI, rdQ_nI, rdL_nI, wrA_nI, wrL_nI, wrF_eq, wrJ_eq, dvd_nI, ite_true, ite_false, if_true, if_false, bI_t, bI_f, bI_0, decide_true, decide_false, Nat.one_ne_zero, Nat.reduceEqDiff, Nat.reduceLT, Nat.reduceLeDiff, Nat.reduceAdd, Nat.reduceMul, Nat.reduceSub, Nat.reduceDiv, hk]
    rw [c_measureIn _ hC hV hf hk, clp_some, c_measureIn _ hC hV hg hk, clp_some]
    exact ih
  · intro n
    show f_X11_far_L45 _ _ _ _ _ (n + 1) _ _ = _
    rw [f_X11_far_L45, hC.1]
    simp (disch := omega) only [clp_some, cl_some, jn_eq, uI_add, uI_mul, uI_lt, uI_lt0, uI_0lt, uI_eq0, uI_inj, uI_ne1, n1_ne, n1_lt, uI_lt1, rdA_nI, rdQ_nI, rdL_nI, wrA_nI, wrL_nI, wrF_eq, wrJ_eq, dvd_nI, ite_true, ite_false, if_true, if_false, bI_t, bI_f, bI_0, decide_true, decide_false, Nat.one_ne_zero, Nat.reduceEqDiff, Nat.reduceLT, Nat.reduceLeDiff, Nat.reduceAdd, Nat.reduceMul, Nat.reduceSub, Nat.reduceDiv, Nat.lt_irrefl]
theorem m_far {bk : Nat} {t : Tn} {h : CH} (a ya b yb : Int32) (hM : MT bk t h) (hV : VT t) : f_X12_far a ya b yb h = some (faA t a ya b yb) := by
  have v2 := hV.2.1
  have v3 := hV.2.2.1
  unfold f_X12_far faA
  rw [m_isFace hM hV, clp_some, ifB]
  cases ha : isF (tF t) a
  · rfl
  simp only [if_true]
  rw [m_isFace hM hV, clp_some, ifB]
  cases hb : isF (tF t) b
  · rfl
  simp only [if_true]
  rw [m_isIn, clp_some, ifB]
  cases inR (nI 0) (nI 60) ya
  · rfl
  simp only [if_true]
  rw [m_isIn, clp_some, ifB]
  cases inR (nI 0) (nI 60) yb
  · rfl
  simp only [if_true]
  obtain ⟨f, hf, rfl⟩ := isF_of ha (by omega)
  obtain ⟨g, hg, rfl⟩ := isF_of hb (by omega)
  rw [uI_toNat (by omega), uI_toNat (by omega)]
  unfold farS
  refine loop_FU (fun n k => f_X12_far_L45 (nI f) ya (nI g) yb h n (smI k (fun i => ab (mz t f i ya - mz t g i yb))) (nI k) = some (smI (tP t) (fun i => ab (mz t f i ya - mz t g i yb)))) (tP t) (by omega) ?_ ?_
  · intro n k hk ih
    show f_X12_far_L45 _ _ _ _ _ (n + 1) _ _ = _
    rw [f_X12_far_L45, m_pointMany hM]
    simp (disch := omega) only [clp_some, cl_some, jn_eq, uI_add, uI_mul, uI_lt, uI_lt0, uI_0lt, uI_eq0, uI_inj, uI_ne1, n1_ne, n1_lt, uI_lt1, rdA_nI, rdQ_nI, rdL_nI, wrA_nI, wrL_nI, wrF_eq, wrJ_eq, dvd_nI, ite_true, ite_false, if_true, if_false, bI_t, bI_f, bI_0, decide_true, decide_false, Nat.one_ne_zero, Nat.reduceEqDiff, Nat.reduceLT, Nat.reduceLeDiff, Nat.reduceAdd, Nat.reduceMul, Nat.reduceSub, Nat.reduceDiv, hk]
    rw [m_measureOf _ hM hV hf hk, clp_some, m_measureOf _ hM hV hg hk, clp_some, m_sizeOf, clp_some]
    exact ih
  · intro n
    show f_X12_far_L45 _ _ _ _ _ (n + 1) _ _ = _
    rw [f_X12_far_L45, m_pointMany hM]
    simp (disch := omega) only [clp_some, cl_some, jn_eq, uI_add, uI_mul, uI_lt, uI_lt0, uI_0lt, uI_eq0, uI_inj, uI_ne1, n1_ne, n1_lt, uI_lt1, rdA_nI, rdQ_nI, rdL_nI, wrA_nI, wrL_nI, wrF_eq, wrJ_eq, dvd_nI, ite_true, ite_false, if_true, if_false, bI_t, bI_f, bI_0, decide_true, decide_false, Nat.one_ne_zero, Nat.reduceEqDiff, Nat.reduceLT, Nat.reduceLeDiff, Nat.reduceAdd, Nat.reduceMul, Nat.reduceSub, Nat.reduceDiv, Nat.lt_irrefl]
/-- a far of small numbers is a small number -/
theorem farS_nI {P : Nat} (h8 : P ≤ 8) {u v : Nat → Int32} (hu : ∀ i, i < P → ∃ n, n ≤ 99 ∧ u i = nI n) (hv : ∀ i, i < P → ∃ n, n ≤ 99 ∧ v i = nI n) : ∃ n, n ≤ 99 * P ∧ farS P u v = nI n := by
  unfold farS
  have key : ∀ k, k ≤ P → ∃ n, n ≤ 99 * k ∧ smI k (fun i => ab (u i - v i)) = nI n := by
    intro k
    induction k with
    | zero => intro _; exact ⟨0, Nat.le_refl _, rfl⟩
    | succ k ih =>
      intro hk
      obtain ⟨n, hn, e⟩ := ih (by omega)
      obtain ⟨a, ha, ea⟩ := hu k (by omega)
      obtain ⟨b, hb, eb⟩ := hv k (by omega)
      rw [smI, e, ea, eb]
      by_cases q : b ≤ a
      · refine ⟨n + (a - b), by omega, ?_⟩
        rw [uI_sub q]
        unfold ab
        rw [if_pos (Int32.not_lt.mp (by rw [uI_lt0 (by omega)]; exact id)), uI_add]
      · refine ⟨n + (b - a), by omega, ?_⟩
        have e1 : nI a - nI b = -(nI (b - a)) := by rw [← uI_sub (by omega), Int32.neg_sub]
        rw [e1]
        unfold ab
        have e2 : ¬ (0 : Int32) ≤ -(nI (b - a)) := by
          rw [Int32.le_iff_toInt_le, Int32.toInt_neg, uI_toInt (by omega), show (0 : Int32).toInt = 0 from by decide]
          rw [Int.bmod_eq_of_le (by omega) (by omega)]
          omega
        rw [if_neg e2, Int32.zero_sub, Int32.neg_neg, uI_add]
  exact key P (Nat.le_refl _)
def fdN {α : Type} : Nat → (Nat → α → α) → α → α
  | 0, _, x => x
  | n + 1, f, x => f n (fdN n f x)
def lsS (t : Tn) (k o : Int32) (a b : Nat) (x : Int32) : Int32 := if a = b then x else if tkd t a = k then (if tkd t b = o then (if x = -1 then farS (tP t) (ttl t a) (ttl t b) else mn x (farS (tP t) (ttl t a) (ttl t b))) else x) else x
def msS (t : Tn) (k o : Int32) : Int32 := fdN (tF t) (fun a x => fdN (tF t) (lsS t k o a) x) (-1)
theorem c_least {t : Tn} {h : CH} (k o : Int32) (hC : CT 7 t h) (hV : VT t) : f_X9_leastBetween_7 k o h = some (msS t k o) := by
  have v2 := hV.2.1
  have v3 := hV.2.2.1
  have hC' := hC
  obtain ⟨c0, c1, c2, c3, ck, cd, ct, -⟩ := hC'
  unfold f_X9_leastBetween_7 msS
  refine loop_FU (fun n a => f_X9_leastBetween_7_L5 k o h n (fdN a (fun a x => fdN (tF t) (lsS t k o a) x) (-1)) (nI a) = some (fdN (tF t) (fun a x => fdN (tF t) (lsS t k o a) x) (-1))) (tF t) (by omega) ?_ ?_
  · intro n a ha ih
    show f_X9_leastBetween_7_L5 _ _ _ (n + 1) _ _ = _
    have ha16 : a < 16 := by omega
    rw [f_X9_leastBetween_7_L5, c2]
    simp (disch := omega) only [clp_some, cl_some, jn_eq, uI_add, uI_mul, uI_lt, uI_lt0, uI_0lt, uI_eq0, uI_inj, uI_ne1, n1_ne, n1_lt, uI_lt1, rdA_nI, rdQ_nI, rdL_nI, wrA_nI, wrL_nI, wrF_eq, wrJ_eq, dvd_nI, ite_true, ite_false, if_true, if_false, bI_t, bI_f, bI_0, decide_true, decide_false, Nat.one_ne_zero, Nat.reduceEqDiff, Nat.reduceLT, Nat.reduceLeDiff, Nat.reduceAdd, Nat.reduceMul, Nat.reduceSub, Nat.reduceDiv, ha, ha16]
    generalize hx0 : fdN a (fun a x => fdN (tF t) (lsS t k o a) x) (-1) = x0 at ih ⊢
    have inner := loop_FU (fun n' j => f_X9_leastBetween_7_L24 k o (nI a) h (fun x3_3 => f_X9_leastBetween_7_L5 k o h n x3_3 (nI (a + 1))) n' (fdN j (lsS t k o a) x0) (nI j) = some (fdN (tF t) (fun a x => fdN (tF t) (lsS t k o a) x) (-1))) (tF t) (by omega) ?_ ?_
    · exact inner
    · intro n' b hb ih'
      show f_X9_leastBetween_7_L24 _ _ _ _ _ (n' + 1) _ _ = _
      have hb16 : b < 16 := by omega
      have ka : h.1 9 a = tkd t a := ck a ha
      have kb : h.1 9 b = tkd t b := ck b hb
      rw [f_X9_leastBetween_7_L24, c2]
      simp (disch := omega) only [clp_some, cl_some, jn_eq, uI_add, uI_mul, uI_lt, uI_lt0, uI_0lt, uI_eq0, uI_inj, uI_ne1, n1_ne, n1_lt, uI_lt1, rdA_nI, rdQ_nI, rdL_nI, wrA_nI, wrL_nI, wrF_eq, wrJ_eq, dvd_nI, ite_true, ite_false, if_true, if_false, bI_t, bI_f, bI_0, decide_true, decide_false, Nat.one_ne_zero, Nat.reduceEqDiff, Nat.reduceLT, Nat.reduceLeDiff, Nat.reduceAdd, Nat.reduceMul, Nat.reduceSub, Nat.reduceDiv, hb, hb16, ka, kb]
      rw [c_apart _ _ c0 v2, farS_congr (fun i hi => ct a ha i hi) (fun i hi => ct b hb i hi), clp_some]
      have ih2 : f_X9_leastBetween_7_L24 k o (nI a) h (fun x3_3 => f_X9_leastBetween_7_L5 k o h n x3_3 (nI (a + 1))) n' (lsS t k o a b (fdN b (lsS t k o a) x0)) (nI (b + 1)) = some (fdN (tF t) (fun a x => fdN (tF t) (lsS t k o a) x) (-1)) := ih'
      revert ih2
      generalize fdN b (lsS t k o a) x0 = z
      intro ih2
      rw [← ih2]
      unfold lsS
      by_cases e1 : a = b
      · simp only [e1, if_true]
      · simp only [e1, if_false]
        by_cases e2 : tkd t a = k
        · simp only [e2, if_true]
          by_cases e3 : tkd t b = o
          · simp only [e3, if_true]
            by_cases e4 : z = -1
            · simp only [e4, if_true]
            · simp only [e4, if_false]
          · simp only [e3, if_false]
        · simp only [e2, if_false]
    · intro n'
      show f_X9_leastBetween_7_L24 _ _ _ _ _ (n' + 1) _ _ = _
      rw [f_X9_leastBetween_7_L24, c2]
      simp (disch := omega) only [clp_some, cl_some, jn_eq, uI_add, uI_mul, uI_lt, uI_lt0, uI_0lt, uI_eq0, uI_inj, uI_ne1, n1_ne, n1_lt, uI_lt1, rdA_nI, rdQ_nI, rdL_nI, wrA_nI, wrL_nI, wrF_eq, wrJ_eq, dvd_nI, ite_true, ite_false, if_true, if_false, bI_t, bI_f, bI_0, decide_true, decide_false, Nat.one_ne_zero, Nat.reduceEqDiff, Nat.reduceLT, Nat.reduceLeDiff, Nat.reduceAdd, Nat.reduceMul, Nat.reduceSub, Nat.reduceDiv, Nat.lt_irrefl]
      rw [← hx0]
      exact ih
  · intro n
    show f_X9_leastBetween_7_L5 _ _ _ (n + 1) _ _ = _
    rw [f_X9_leastBetween_7_L5, c2]
    simp (disch := omega) only [clp_some, cl_some, jn_eq, uI_add, uI_mul, uI_lt, uI_lt0, uI_0lt, uI_eq0, uI_inj, uI_ne1, n1_ne, n1_lt, uI_lt1, rdA_nI, rdQ_nI, rdL_nI, wrA_nI, wrL_nI, wrF_eq, wrJ_eq, dvd_nI, ite_true, ite_false, if_true, if_false, bI_t, bI_f, bI_0, decide_true, decide_false, Nat.one_ne_zero, Nat.reduceEqDiff, Nat.reduceLT, Nat.reduceLeDiff, Nat.reduceAdd, Nat.reduceMul, Nat.reduceSub, Nat.reduceDiv, Nat.lt_irrefl]
/-- of the least so far: none, or a small number -/
theorem ls_or {t : Tn} (hV : VT t) {k o : Int32} : ∀ A, A ≤ tF t → (fdN A (fun a x => fdN (tF t) (lsS t k o a) x) (-1) = -1 ∨ ∃ n, n ≤ 800 ∧ fdN A (fun a x => fdN (tF t) (lsS t k o a) x) (-1) = nI n) ∧ ∀ a, a < tF t → ∀ x : Int32, (x = -1 ∨ ∃ n, n ≤ 800 ∧ x = nI n) → ∀ B, B ≤ tF t → (fdN B (lsS t k o a) x = -1 ∨ ∃ n, n ≤ 800 ∧ fdN B (lsS t k o a) x = nI n) := by
  obtain ⟨v1, v2, v3, v4, v5, v6, v7, v8, -⟩ := hV
  have inner : ∀ a, a < tF t → ∀ x : Int32, (x = -1 ∨ ∃ n, n ≤ 800 ∧ x = nI n) → ∀ B, B ≤ tF t → (fdN B (lsS t k o a) x = -1 ∨ ∃ n, n ≤ 800 ∧ fdN B (lsS t k o a) x = nI n) := by
    intro a ha x hx B
    induction B with
    | zero => intro _; exact hx
    | succ B ih =>
      intro hB
      have ih := ih (by omega)
      show (lsS t k o a B (fdN B (lsS t k o a) x) = -1 ∨ ∃ n, n ≤ 800 ∧ lsS t k o a B (fdN B (lsS t k o a) x) = nI n)
      revert ih
      generalize fdN B (lsS t k o a) x = z
      intro ih
      obtain ⟨m, hm, em⟩ := farS_nI v2 (v8 a ha) (v8 B (by omega))
      unfold lsS
      by_cases e1 : a = B
      · rw [if_pos e1]; exact ih
      rw [if_neg e1]
      by_cases e2 : tkd t a = k
      · rw [if_pos e2]
        by_cases e3 : tkd t B = o
        · rw [if_pos e3]
          by_cases e4 : z = -1
          · rw [if_pos e4]; exact Or.inr ⟨m, by omega, em⟩
          · rw [if_neg e4]
            rcases ih with h1 | ⟨q, hq, eq⟩
            · exact absurd h1 e4
            · unfold mn
              by_cases e5 : farS (tP t) (ttl t a) (ttl t B) < z
              · rw [if_pos e5]; exact Or.inr ⟨m, by omega, em⟩
              · rw [if_neg e5]; exact Or.inr ⟨q, hq, eq⟩
        · rw [if_neg e3]; exact ih
      · rw [if_neg e2]; exact ih
  intro A
  induction A with
  | zero => intro _; exact ⟨Or.inl rfl, inner⟩
  | succ A ih =>
    intro hA
    have ih := ih (by omega)
    exact ⟨inner A (by omega) _ ih.1 (tF t) (Nat.le_refl _), inner⟩
theorem m_measure {bk : Nat} {t : Tn} {h : CH} (k o : Int32) (hM : MT bk t h) (hV : VT t) : f_X12_measure k o h = some (msS t k o) := by
  have v2 := hV.2.1
  have v3 := hV.2.2.1
  unfold f_X12_measure msS
  refine loop_FU (fun n a => f_X12_measure_L5 k o h n (fdN a (fun a x => fdN (tF t) (lsS t k o a) x) (-1)) (nI a) = some (fdN (tF t) (fun a x => fdN (tF t) (lsS t k o a) x) (-1))) (tF t) (by omega) ?_ ?_
  · intro n a ha ih
    show f_X12_measure_L5 _ _ _ (n + 1) _ _ = _
    rw [f_X12_measure_L5, m_many hM]
    simp (disch := omega) only [clp_some, cl_some, jn_eq, uI_add, uI_mul, uI_lt, uI_lt0, uI_0lt, uI_eq0, uI_inj, uI_ne1, n1_ne, n1_lt, uI_lt1, rdA_nI, rdQ_nI, rdL_nI, wrA_nI, wrL_nI, wrF_eq, wrJ_eq, dvd_nI, ite_true, ite_false, if_true, if_false, bI_t, bI_f, bI_0, decide_true, decide_false, Nat.one_ne_zero, Nat.reduceEqDiff, Nat.reduceLT, Nat.reduceLeDiff, Nat.reduceAdd, Nat.reduceMul, Nat.reduceSub, Nat.reduceDiv, ha]
    have hor := (ls_or hV (k := k) (o := o) a (by omega)).1
    have hin := (ls_or hV (k := k) (o := o) a (by omega)).2 a ha
    generalize hx0 : fdN a (fun a x => fdN (tF t) (lsS t k o a) x) (-1) = x0 at hor
    have inner := loop_FU (fun n' j => f_X12_measure_L17 k o (nI a) h (fun x3_3 => f_X12_measure_L5 k o h n x3_3 (nI (a + 1))) n' (fdN j (lsS t k o a) x0) (nI j) = some (fdN (tF t) (fun a x => fdN (tF t) (lsS t k o a) x) (-1))) (tF t) (by omega) ?_ ?_
    · exact inner
    · intro n' b hb ih'
      show f_X12_measure_L17 _ _ _ _ _ (n' + 1) _ _ = _
      rw [f_X12_measure_L17, m_many hM]
      simp (disch := omega) only [clp_some, cl_some, jn_eq, uI_add, uI_mul, uI_lt, uI_lt0, uI_0lt, uI_eq0, uI_inj, uI_ne1, n1_ne, n1_lt, uI_lt1, rdA_nI, rdQ_nI, rdL_nI, wrA_nI, wrL_nI, wrF_eq, wrJ_eq, dvd_nI, ite_true, ite_false, if_true, if_false, bI_t, bI_f, bI_0, decide_true, decide_false, Nat.one_ne_zero, Nat.reduceEqDiff, Nat.reduceLT, Nat.reduceLeDiff, Nat.reduceAdd, Nat.reduceMul, Nat.reduceSub, Nat.reduceDiv, hb]
      rw [m_kd hM hV ha]
      have ih2 : f_X12_measure_L17 k o (nI a) h (fun x3_3 => f_X12_measure_L5 k o h n x3_3 (nI (a + 1))) n' (lsS t k o a b (fdN b (lsS t k o a) x0)) (nI (b + 1)) = some (fdN (tF t) (fun a x => fdN (tF t) (lsS t k o a) x) (-1)) := ih'
      have hz := hin x0 hor b (by omega)
      revert ih2 hz
      generalize fdN b (lsS t k o a) x0 = z
      intro ih2 hz
      rw [← ih2]
      unfold lsS
      by_cases e1 : a = b
      · simp only [e1, if_true]
      · simp only [e1, if_false]
        by_cases e2 : tkd t a = k
        · simp only [e2, if_true]
          rw [m_kd hM hV hb]
          by_cases e3 : tkd t b = o
          · simp only [e3, if_true]
            have ef : f_X12_far (nI a) (nI 0) (nI b) (nI 0) h = some (farS (tP t) (ttl t a) (ttl t b)) := by
              rw [m_far _ _ _ _ hM hV]
              unfold faA
              rw [isF_nI ha (by omega), isF_nI hb (by omega), show inR (nI 0) (nI 60) (nI 0) = true from by decide, uI_toNat (by omega), uI_toNat (by omega)]
              simp only [if_true]
              rw [farS_congr (fun i hi => mz0 hV ha hi) (fun i hi => mz0 hV hb hi)]
            rw [ef, clp_some]
            rcases hz with h1 | ⟨q, hq, eq⟩
            · subst h1
              simp only [show ((-1 : Int32) < 0) = True from by decide, if_true]
            · subst eq
              rw [if_neg (show ¬ nI q < 0 by rw [uI_lt0 (by omega)]; exact id), if_neg (show ¬ nI q = -1 by rw [uI_ne1 (by omega)]; exact id)]
              unfold mn
              by_cases e5 : farS (tP t) (ttl t a) (ttl t b) < nI q
              · rw [if_pos e5, if_pos e5]
              · rw [if_neg e5, if_neg e5]
          · simp only [e3, if_false]
        · simp only [e2, if_false]
    · intro n'
      show f_X12_measure_L17 _ _ _ _ _ (n' + 1) _ _ = _
      rw [f_X12_measure_L17, m_many hM]
      simp (disch := omega) only [clp_some, cl_some, jn_eq, uI_add, uI_mul, uI_lt, uI_lt0, uI_0lt, uI_eq0, uI_inj, uI_ne1, n1_ne, n1_lt, uI_lt1, rdA_nI, rdQ_nI, rdL_nI, wrA_nI, wrL_nI, wrF_eq, wrJ_eq, dvd_nI, ite_true, ite_false, if_true, if_false, bI_t, bI_f, bI_0, decide_true, decide_false, Nat.one_ne_zero, Nat.reduceEqDiff, Nat.reduceLT, Nat.reduceLeDiff, Nat.reduceAdd, Nat.reduceMul, Nat.reduceSub, Nat.reduceDiv, Nat.lt_irrefl]
      rw [← hx0]
      exact ih
  · intro n
    show f_X12_measure_L5 _ _ _ (n + 1) _ _ = _
    rw [f_X12_measure_L5, m_many hM]
    simp (disch := omega) only [clp_some, cl_some, jn_eq, uI_add, uI_mul, uI_lt, uI_lt0, uI_0lt, uI_eq0, uI_inj, uI_ne1, n1_ne, n1_lt, uI_lt1, rdA_nI, rdQ_nI, rdL_nI, wrA_nI, wrL_nI, wrF_eq, wrJ_eq, dvd_nI, ite_true, ite_false, if_true, if_false, bI_t, bI_f, bI_0, decide_true, decide_false, Nat.one_ne_zero, Nat.reduceEqDiff, Nat.reduceLT, Nat.reduceLeDiff, Nat.reduceAdd, Nat.reduceMul, Nat.reduceSub, Nat.reduceDiv, Nat.lt_irrefl]
/-- no face has a kind that isn't 0 .. 3 -/
theorem ms_none {t : Tn} (hV : VT t) {k o : Int32} (h : isF 4 k = false ∨ isF 4 o = false) : msS t k o = -1 := by
  obtain ⟨v1, v2, v3, v4, v5, v6, -⟩ := hV
  have nk : ∀ a, a < tF t → ∀ x, isF 4 x = false → ¬ tkd t a = x := by
    intro a ha x hx e
    obtain ⟨n, hn, en⟩ := v6 a ha
    rw [← e, en, isF_nI (by omega) (by omega)] at hx
    exact absurd hx (by decide)
  have st : ∀ a, a < tF t → ∀ b, b < tF t → ∀ x, lsS t k o a b x = x := by
    intro a ha b hb x
    unfold lsS
    by_cases e1 : a = b
    · rw [if_pos e1]
    rw [if_neg e1]
    by_cases e2 : tkd t a = k
    · rw [if_pos e2]
      by_cases e3 : tkd t b = o
      · rcases h with h | h
        · exact absurd e2 (nk a ha k h)
        · exact absurd e3 (nk b hb o h)
      · rw [if_neg e3]
    · rw [if_neg e2]
  unfold msS
  have inn : ∀ a, a < tF t → ∀ B, B ≤ tF t → ∀ x, fdN B (lsS t k o a) x = x := by
    intro a ha B
    induction B with
    | zero => intro _ x; rfl
    | succ B ih => intro hB x; rw [fdN, ih (by omega), st a ha B (by omega)]
  have out : ∀ A, A ≤ tF t → fdN A (fun a x => fdN (tF t) (lsS t k o a) x) (-1) = -1 := by
    intro A
    induction A with
    | zero => intro _; rfl
    | succ A ih => intro hA; rw [fdN, ih (by omega), inn A (by omega) (tF t) (Nat.le_refl _)]
  exact out (tF t) (Nat.le_refl _)
theorem c_measure {t : Tn} {h : CH} (k o : Int32) (hC : CT 7 t h) (hV : VT t) : f_X11_measure k o h = some (msS t k o) := by
  unfold f_X11_measure
  rw [isF_if, isF_if]
  cases hk : isF 4 k
  · rw [ms_none hV (Or.inl hk)]; rfl
  cases ho : isF 4 o
  · rw [ms_none hV (Or.inr ho)]; rfl
  simp only [if_true]
  rw [c_least k o hC hV, clp_some]
