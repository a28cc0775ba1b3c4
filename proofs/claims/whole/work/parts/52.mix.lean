/-! mixes in the dark room; signs; the caught -/
theorem c_blurOf {t : Tn} {h : CH} {p : Int32} (hC : CT 7 t h) (hV : VT t) (hp : inR (-1) (nI 3) p = true) : ∃ w, w ≤ 9 ∧ f_X9_blurOf_7 p h = some (nI w) ∧ ∀ v, pri t p v = v - (v - v / nI (w + 1) * nI (w + 1)) := by
  obtain ⟨v1, v2, v3, v4, v5, v6, v7, v8, v9, -⟩ := hV
  obtain ⟨c0, c1, c2, c3, ck, cd, ct, cf, cb, cc⟩ := hC
  unfold f_X9_blurOf_7
  by_cases h0 : p < 0
  · refine ⟨0, by omega, by rw [if_pos h0], fun v => ?_⟩
    unfold pri
    have z1 : nI (0 + 1) = 1 := rfl
    rw [if_pos h0, z1, Int32.div_one, Int32.mul_one, Int32.sub_self, Int32.sub_zero]
  · have h3 : ¬ nI 3 < p := (of_decide_eq_true hp).2
    obtain ⟨q, hq, rfl⟩ := uI_of h0
    rw [uI_lt (by omega) hq] at h3
    obtain ⟨w, hw, ew⟩ := v9 q (by omega)
    have cb : h.1 29 q = tbl t q := cb q (by omega)
    have q4 : q < 4 := by omega
    refine ⟨w, hw, ?_, fun v => ?_⟩
    · simp (disch := omega) only [clp_some, cl_some, jn_eq, uI_add, uI_mul, uI_lt, uI_lt0, uI_0lt, uI_eq0, uI_inj, uI_ne1, n1_ne, n1_lt, uI_lt1, rdA_nI, rdQ_nI, rdL_nI, wrA_nI, wrL_nI, wrF_eq, wrJ_eq, dvd_nI, ite_true, ite_false, if_true, if_false, bI_t, bI_f, bI_0, decide_true, decide_false, Nat.one_ne_zero, Nat.reduceEqDiff, Nat.reduceLT, Nat.reduceLeDiff, Nat.reduceAdd, Nat.reduceMul, Nat.reduceSub, Nat.reduceDiv, q4, cb, ew]
    · unfold pri
      rw [if_neg h0, uI_toNat hq, ew, uI_add]
/-- a row of eight: P numbers, then 0 -/
def row8 (P : Nat) (g : Nat → Int32) (i : Nat) : Int32 := if i < P then g i else nI 0
theorem c_developInto {t : Tn} {h : CH} {q a b : Nat} (s p : Int32) (hC : CT 7 t h) (hV : VT t) (hq : q = 80 ∨ q = 122) (ha : a < tF t) (hb : b < tF t) (hp : inR (-1) (nI 3) p = true) : f_X0_developInto q (nI a) (nI b) s p h = some ((), rowS h q 8 (row8 (tP t) (fun i => pri t p (mixv t a b s i)))) := by
  have v2 := hV.2.1
  obtain ⟨w, hw, ew, hpr⟩ := c_blurOf hC hV hp
  unfold f_X0_developInto
  rw [ew, clp_some]
  have e0 : mx (nI 0) (nI w) = nI w := by
    unfold mx
    simp only [show (nI 0 < nI w) = (0 < w) from uI_lt (by omega) (by omega)]
    by_cases z : 0 < w
    · rw [if_pos z]
    · rw [if_neg z, show w = 0 by omega]
  rw [e0, uI_add]
  generalize hg : row8 (tP t) (fun i => pri t p (mixv t a b s i)) = g
  have hrow : ∀ k, CT 7 t (rowS h q k g) := fun k => hC.tc (Fr.rowS (fun _ => by unfold TC; omega)) hV
  have G := loop_FU (fun n k => f_X0_developInto_L20 q (nI a) (nI b) s (nI (w + 1)) n (nI k) (rowS h q k g) = some ((), rowS h q 8 g)) 8 (by omega) ?_ ?_
  · rw [rowS_0] at G; exact G
  · intro n k hk ih
    show f_X0_developInto_L20 _ _ _ _ _ (n + 1) _ _ = _
    rw [f_X0_developInto_L20, (hrow k).1]
    simp (disch := omega) only [clp_some, cl_some, jn_eq, uI_add, uI_mul, uI_lt, uI_lt0, uI_0lt, uI_eq0, uI_inj, uI_ne1, n1_ne, n1_lt, uI_lt1, rdA_nI, rdQ_nI, rdL_nI, wrA_nI, wrL_nI, wrF_eq, wrJ_eq, dvd_nI, ite_true, ite_false, if_true, if_false, bI_t, bI_f, bI_0, decide_true, decide_false, Nat.one_ne_zero, Nat.reduceEqDiff, Nat.reduceLT, Nat.reduceLeDiff, Nat.reduceAdd, Nat.reduceMul, Nat.reduceSub, Nat.reduceDiv, hk]
    have hs := rowS_s h q k g
    by_cases e : k < tP t
    · rw [if_pos e, c_mixed _ (hrow k) hV ha hb e, clp_some, ← hpr]
      have e9 : g k = pri t p (mixv t a b s k) := by rw [← hg]; unfold row8; rw [if_pos e]
      rw [← e9, hs]
      exact ih
    · rw [if_neg e]
      have e9 : g k = nI 0 := by rw [← hg]; unfold row8; rw [if_neg e]
      have e8 : nI 0 - (nI 0 - nI 0 / nI (w + 1) * nI (w + 1)) = nI 0 := by
        rw [uI_div (by omega) (by omega), uI_mul, uI_sub (by simp), uI_sub (by simp)]
        simp
      rw [e8, ← e9, hs]
      exact ih
  · intro n
    show f_X0_developInto_L20 _ _ _ _ _ (n + 1) _ _ = _
    rw [f_X0_developInto_L20, (hrow 8).1]
    simp (disch := omega) only [clp_some, cl_some, jn_eq, uI_add, uI_mul, uI_lt, uI_lt0, uI_0lt, uI_eq0, uI_inj, uI_ne1, n1_ne, n1_lt, uI_lt1, rdA_nI, rdQ_nI, rdL_nI, wrA_nI, wrL_nI, wrF_eq, wrJ_eq, dvd_nI, ite_true, ite_false, if_true, if_false, bI_t, bI_f, bI_0, decide_true, decide_false, Nat.one_ne_zero, Nat.reduceEqDiff, Nat.reduceLT, Nat.reduceLeDiff, Nat.reduceAdd, Nat.reduceMul, Nat.reduceSub, Nat.reduceDiv]
def mxA (t : Tn) (a b s p i : Int32) : Int32 := if mxB t a b s = true then (if inR (-1) (nI 3) p = true then (if isF (tP t) i = true then pri t p (mixv t a.toNatClampNeg b.toNatClampNeg s i.toNatClampNeg) else -1) else -1) else -1
theorem c_mix {t : Tn} {h : CH} (a b s p i : Int32) (hC : CT 7 t h) (hV : VT t) : PO TC h (f_X11_mix a b s p i h) (mxA t a b s p i) := by
  have v2 := hV.2.1
  have v3 := hV.2.2.1
  unfold f_X11_mix mxA
  rw [c_isMix hC hV, clp_some, ifB]
  cases hm : mxB t a b s
  · exact PO.mk Fr.rf
  simp only [if_true]
  rw [c_isPrinterOrNot, clp_some, ifB]
  cases hp : inR (-1) (nI 3) p
  · exact PO.mk Fr.rf
  simp only [if_true]
  rw [hC.1, isF_if]
  cases hi : isF (tP t) i
  · exact PO.mk Fr.rf
  simp only [if_true]
  obtain ⟨f, g, k, hf, hg, hk, rfl, rfl, rfl, -⟩ := mxB_of hV hm
  obtain ⟨j, hj, rfl⟩ := isF_of hi (by omega)
  unfold f_X0_develop
  rw [c_developInto _ _ hC hV (Or.inl rfl) hf hg hp, cl_some, cl_some, rdA_nI (by omega) (by omega), rowS_in (by omega), uI_toNat (by omega), uI_toNat (by omega), uI_toNat (by omega)]
  unfold row8
  rw [if_pos hj]
  exact PO.mk (Fr.rowS (fun _ => by unfold TC; omega))
theorem m_mix {bk : Nat} {t : Tn} {h : CH} (a b s p i : Int32) (hM : MT bk t h) (hV : VT t) : PO TM h (f_X12_mix a b s p i h) (mxA t a b s p i) := by
  have v2 := hV.2.1
  have v3 := hV.2.2.1
  unfold f_X12_mix mxA
  rw [m_isMix hM hV, clp_some, ifB]
  cases hm : mxB t a b s
  · exact PO.mk Fr.rf
  simp only [if_true]
  rw [m_isPrinterNo, clp_some, ifB]
  cases hp : inR (-1) (nI 3) p
  · exact PO.mk Fr.rf
  simp only [if_true]
  rw [m_pointMany hM, clp_some, m_isIn, clp_some, inR_F (by omega), ifB]
  cases hi : isF (tP t) i
  · exact PO.mk Fr.rf
  simp only [if_true]
  obtain ⟨f, g, k, hf, hg, hk, rfl, rfl, rfl, -⟩ := mxB_of hV hm
  obtain ⟨j, hj, rfl⟩ := isF_of hi (by omega)
  rw [m_layMix _ _ hM hV hf hg hp, cl_some, rdA_nI (by omega) (by omega), rowS_in hj, uI_toNat (by omega), uI_toNat (by omega), uI_toNat (by omega)]
  exact PO.mk (Fr.rowS (fun _ => by unfold TM; omega))
theorem pic_v {t : Tn} {a b k i : Nat} {p : Int32} (hV : VT t) (ha : a < tF t) (hb : b < tF t) (hk : k ≤ 10) (hp : inR (-1) (nI 3) p = true) (hi : i < tP t) : ∃ n, n ≤ 99 ∧ pri t p (mixv t a b (nI k) i) = nI n := by
  obtain ⟨v1, v2, v3, v4, v5, v6, v7, v8, v9, -⟩ := hV
  obtain ⟨x, hx, ex⟩ := v8 a ha i hi
  obtain ⟨y, hy, ey⟩ := v8 b hb i hi
  have m1 : x * k ≤ 99 * k := Nat.mul_le_mul_right k hx
  have m2 : y * (10 - k) ≤ 99 * (10 - k) := Nat.mul_le_mul_right _ hy
  have em : mixv t a b (nI k) i = nI ((x * k + y * (10 - k)) / 10) := by
    unfold mixv
    rw [ex, ey, uI_sub hk, uI_mul, uI_mul, uI_add, uI_div (by omega) (by omega)]
  rw [em]
  have lv : (x * k + y * (10 - k)) / 10 ≤ 99 := by omega
  generalize (x * k + y * (10 - k)) / 10 = v at *
  unfold pri
  by_cases h0 : p < 0
  · rw [if_pos h0]; exact ⟨v, lv, rfl⟩
  · have h3 : ¬ nI 3 < p := (of_decide_eq_true hp).2
    obtain ⟨q, hq, rfl⟩ := uI_of h0
    rw [uI_lt (by omega) hq] at h3
    obtain ⟨w, hw, ew⟩ := v9 q (by omega)
    have d1 : v / (w + 1) * (w + 1) ≤ v := Nat.div_mul_le_self _ _
    rw [if_neg h0, uI_toNat hq, ew, uI_add, uI_div (by omega) (by omega), uI_mul, uI_sub d1, uI_sub (by omega)]
    exact ⟨_, by omega, rfl⟩
/-- the signs that a mix shows -/
def sgS (t : Tn) (R : Ru) (a b : Nat) (s p : Int32) : Int32 := R.2 (fun i => pri t p (mixv t a b s i))
theorem c_shown {t : Tn} {R : Ru} {h : CH} {a b k : Nat} (hk : k ≤ 10) (p : Int32) (w : WC t R h) (ha : a < tF t) (hb : b < tF t) (hp : inR (-1) (nI 3) p = true) : PO TC h (f_X0_shown (nI a) (nI b) (nI k) p h) (sgS t R a b (nI k) p) := by
  obtain ⟨w1, w2, w3, w4, w5⟩ := w
  unfold f_X0_shown
  rw [c_developInto _ _ w3 w1 (Or.inl rfl) ha hb hp, cl_some]
  have hF : Fr TC h (rowS h 80 8 (row8 (tP t) (fun i => pri t p (mixv t a b (nI k) i)))) := Fr.rowS (fun _ => by unfold TC; omega)
  rw [(w3.tc hF w1).1]
  have v2 := w1.2.1
  have hpi : PIC (tP t) ((rowS h 80 8 (row8 (tP t) (fun i => pri t p (mixv t a b (nI k) i)))).1 80) := fun i hi => by
    rw [rowS_in (by omega)]
    unfold row8
    rw [if_pos hi]
    exact pic_v w1 ha hb hk hp hi
  have e : R.2 ((rowS h 80 8 (row8 (tP t) (fun i => pri t p (mixv t a b (nI k) i)))).1 80) = sgS t R a b (nI k) p := w2 _ _ (fun i hi => by
    rw [rowS_in (by omega)]
    unfold row8
    rw [if_pos hi])
  rw [← e]
  exact PO.cl ((w5 _ hF hpi).go hF (fun x k q => by unfold SR at q; unfold TC; omega)) (fun h1 hF1 => PO.mk hF1)
theorem m_shown {bk : Nat} {t : Tn} {R : Ru} {h : CH} {a b k : Nat} (hk : k ≤ 10) (p : Int32) (w : WM bk t R h) (ha : a < tF t) (hb : b < tF t) (hp : inR (-1) (nI 3) p = true) : ∃ h1, f_X12_layMix (nI a) (nI b) (nI k) p h = some ((), h1) ∧ Fr TM h h1 ∧ PO SA h1 (f_X12_signsOf h1) (sgS t R a b (nI k) p) := by
  obtain ⟨w1, w2, w3, w4, w5⟩ := w
  have hF : Fr TM h (rowS h 176 (tP t) (fun i => pri t p (mixv t a b (nI k) i))) := Fr.rowS (fun _ => by unfold TM; omega)
  refine ⟨_, m_layMix _ _ w3 w1 ha hb hp, hF, ?_⟩
  have e : R.2 ((rowS h 176 (tP t) (fun i => pri t p (mixv t a b (nI k) i))).1 176) = sgS t R a b (nI k) p := w2 _ _ (fun i hi => by rw [rowS_in hi])
  have hpi : PIC (tP t) ((rowS h 176 (tP t) (fun i => pri t p (mixv t a b (nI k) i))).1 176) := fun i hi => by
    rw [rowS_in hi]
    exact pic_v w1 ha hb hk hp hi
  rw [← e]
  exact w5 _ hF hpi
def sgA (t : Tn) (R : Ru) (a b s p : Int32) : Int32 := if mxB t a b s = true then (if inR (-1) (nI 3) p = true then sgS t R a.toNatClampNeg b.toNatClampNeg s p else -1) else -1
theorem c_signs {t : Tn} {R : Ru} {h : CH} (a b s p : Int32) (w : WC t R h) : PO TC h (f_X11_signs a b s p h) (sgA t R a b s p) := by
  have v3 := w.1.2.2.1
  unfold f_X11_signs sgA
  rw [c_isMix w.2.2.1 w.1, clp_some, ifB]
  cases hm : mxB t a b s
  · exact PO.mk Fr.rf
  simp only [if_true]
  rw [c_isPrinterOrNot, clp_some, ifB]
  cases hp : inR (-1) (nI 3) p
  · exact PO.mk Fr.rf
  simp only [if_true]
  obtain ⟨f, g, k, hf, hg, hk, rfl, rfl, rfl, -⟩ := mxB_of w.1 hm
  rw [uI_toNat (by omega), uI_toNat (by omega)]
  exact PO.cl (c_shown hk _ w hf hg hp) (fun h1 hF1 => PO.mk hF1)
theorem m_signs {bk : Nat} {t : Tn} {R : Ru} {h : CH} (a b s p : Int32) (w : WM bk t R h) : PO TM h (f_X12_signs a b s p h) (sgA t R a b s p) := by
  have v3 := w.1.2.2.1
  unfold f_X12_signs sgA
  rw [m_isMix w.2.2.1 w.1, clp_some, ifB]
  cases hm : mxB t a b s
  · exact PO.mk Fr.rf
  simp only [if_true]
  rw [m_isPrinterNo, clp_some, ifB]
  cases hp : inR (-1) (nI 3) p
  · exact PO.mk Fr.rf
  simp only [if_true]
  obtain ⟨f, g, k, hf, hg, hk, rfl, rfl, rfl, -⟩ := mxB_of w.1 hm
  rw [uI_toNat (by omega), uI_toNat (by omega)]
  obtain ⟨h1, e1, hF1, s1⟩ := m_shown hk p w hf hg hp
  rw [e1, cl_some]
  exact PO.cl (s1.go hF1 SA_TM) (fun h1 hF1 => PO.mk hF1)
/-! the greatest common divisor -/
theorem uI_rem {a b : Nat} (ha : a < 2147483648) (hb : b < 2147483648) : nI a - nI a / nI b * nI b = nI (a % b) := by
  rw [uI_div ha hb, uI_mul, uI_sub (Nat.div_mul_le_self a b)]
  congr 1
  have := Nat.div_add_mod a b
  rw [Nat.mul_comm] at this
  omega
theorem c_gcd {h : CH} : ∀ y x i n, x < 2147483648 → y < 2147483648 → i + y < 10000 → y < n → f_X0_commonDivisor_L7 h n (nI x) (nI y) (nI i) = some (nI (Nat.gcd x y)) := by
  intro y
  induction y using Nat.strongRecOn with
  | _ y ih =>
    intro x i n hx hy hi hn
    cases n with
    | zero => omega
    | succ n =>
      rw [f_X0_commonDivisor_L7]
      have h1 : i < 10000 := by omega
      simp (disch := omega) only [clp_some, cl_some, jn_eq, uI_add, uI_mul, uI_lt, uI_lt0, uI_0lt, uI_eq0, uI_inj, uI_ne1, n1_ne, n1_lt, uI_lt1, rdA_nI, rdQ_nI, rdL_nI, wrA_nI, wrL_nI, wrF_eq, wrJ_eq, dvd_nI, ite_true, ite_false, if_true, if_false, bI_t, bI_f, bI_0, decide_true, decide_false, Nat.one_ne_zero, Nat.reduceEqDiff, Nat.reduceLT, Nat.reduceLeDiff, Nat.reduceAdd, Nat.reduceMul, Nat.reduceSub, Nat.reduceDiv, h1]
      by_cases e : y = 0
      · subst e; simp
      · rw [if_neg e, uI_rem hx hy]
        rw [ih (x % y) (Nat.mod_lt _ (by omega)) y (i + 1) n hy (Nat.lt_trans (Nat.mod_lt _ (by omega)) hy) (by have := Nat.mod_lt x (show y > 0 by omega); omega) (by have := Nat.mod_lt x (show y > 0 by omega); omega)]
        rw [Nat.gcd_comm x y, Nat.gcd_rec y x, Nat.gcd_comm]
theorem m_gcd {h : CH} : ∀ y x n, x < 2147483648 → y < 2147483648 → y < n → f_X12_common_L4 h n (nI x) (nI y) = some (nI (Nat.gcd x y)) := by
  intro y
  induction y using Nat.strongRecOn with
  | _ y ih =>
    intro x n hx hy hn
    cases n with
    | zero => omega
    | succ n =>
      rw [f_X12_common_L4]
      simp (disch := omega) only [clp_some, cl_some, jn_eq, uI_add, uI_mul, uI_lt, uI_lt0, uI_0lt, uI_eq0, uI_inj, uI_ne1, n1_ne, n1_lt, uI_lt1, rdA_nI, rdQ_nI, rdL_nI, wrA_nI, wrL_nI, wrF_eq, wrJ_eq, dvd_nI, ite_true, ite_false, if_true, if_false, bI_t, bI_f, bI_0, decide_true, decide_false, Nat.one_ne_zero, Nat.reduceEqDiff, Nat.reduceLT, Nat.reduceLeDiff, Nat.reduceAdd, Nat.reduceMul, Nat.reduceSub, Nat.reduceDiv]
      by_cases e : y = 0
      · subst e; simp
      · rw [if_neg e, uI_rem hx hy]
        rw [ih (x % y) (Nat.mod_lt _ (by omega)) y n hy (Nat.lt_trans (Nat.mod_lt _ (by omega)) hy) (by have := Nat.mod_lt x (show y > 0 by omega); omega)]
        rw [Nat.gcd_comm x y, Nat.gcd_rec y x, Nat.gcd_comm]
