/-! the caught -/
def smN : Nat → (Nat → Nat) → Nat
  | 0, _ => 0
  | n + 1, g => smN n g + g n
theorem smI_N (n : Nat) (g : Nat → Nat) : smI n (fun i => nI (g i)) = nI (smN n g) := by
  induction n with
  | zero => rfl
  | succ n ih => rw [smI, smN, ih, uI_add]
theorem smN_le {n c : Nat} {g : Nat → Nat} (h : ∀ i, i < n → g i ≤ c) : smN n g ≤ n * c := by
  induction n with
  | zero => exact Nat.zero_le _
  | succ n ih =>
    have h1 := ih (fun i hi => h i (by omega))
    have h2 := h n (by omega)
    rw [smN, Nat.succ_mul]
    omega
theorem smN_congr {n : Nat} {f g : Nat → Nat} (h : ∀ i, i < n → f i = g i) : smN n f = smN n g := by
  induction n with
  | zero => rfl
  | succ n ih => rw [smN, smN, ih (fun i hi => h i (by omega)), h n (by omega)]
theorem smN_mono {n : Nat} {f g : Nat → Nat} (h : ∀ i, i < n → f i ≤ g i) : smN n f ≤ smN n g := by
  induction n with
  | zero => exact Nat.le_refl _
  | succ n ih =>
    have h1 := ih (fun i hi => h i (by omega))
    have h2 := h n (by omega)
    rw [smN, smN]
    omega
def bN (b : Bool) : Nat := if b then 1 else 0
theorem bI_N (b : Bool) : bI b = nI (bN b) := by cases b <;> rfl
/-- of the mixes of a and b, by the shares 1 .. 9: how many show a sign -/
def cgN (t : Tn) (R : Ru) (p : Int32) (a b : Nat) : Nat := smN 9 (fun s => bN (decide (¬ sgS t R a b (nI (s + 1)) p = 0)))
theorem cgN_le (t : Tn) (R : Ru) (p : Int32) (a b : Nat) : cgN t R p a b ≤ 9 := smN_le (c := 1) (fun i _ => by unfold bN; split <;> omega)
def cuN (t : Tn) (R : Ru) (p : Int32) : Nat := smN (tF t) (fun a => smN (tF t - (a + 1)) (fun j => cgN t R p a (a + 1 + j)))
def cdN (F : Nat) : Nat := smN F (fun a => smN (F - (a + 1)) (fun _ => 9))
theorem smN_const (n c : Nat) : smN n (fun _ => c) = n * c := by
  induction n with
  | zero => simp [smN]
  | succ n ih => rw [smN, ih, Nat.succ_mul]
theorem cdN_eq : ∀ F, F ≤ 16 → cdN F = F * (F - 1) / 2 * 9 := by decide +kernel
theorem cuN_le (t : Tn) (R : Ru) (p : Int32) : cuN t R p ≤ cdN (tF t) := smN_mono (fun a _ => smN_mono (fun j _ => cgN_le t R p a (a + 1 + j)))
theorem c_caughtOf {t : Tn} {R : Ru} {h : CH} {a b : Nat} (p : Int32) (w : WC t R h) (ha : a < tF t) (hb : b < tF t) (hp : inR (-1) (nI 3) p = true) : PO TC h (f_X0_caughtOf (nI a) (nI b) p h) (nI (cgN t R p a b)) := by
  unfold f_X0_caughtOf
  refine loop_FU (fun n k => ∀ h2, Fr TC h h2 → PO TC h (f_X0_caughtOf_L6 (nI a) (nI b) p n (nI (smN k (fun s => bN (decide (¬ sgS t R a b (nI (s + 1)) p = 0))))) (nI (k + 1)) h2) (nI (cgN t R p a b))) 9 (by omega) ?_ ?_ h Fr.rf
  · intro n k hk ih h2 hF2
    have w2 := w.tc hF2
    rw [f_X0_caughtOf_L6]
    have h1 : k + 1 < 10 := by omega
    simp (disch := omega) only [clp_some, cl_some, jn_eq, uI_add, uI_mul, uI_lt, uI_lt0, uI_0lt, uI_eq0, uI_inj, uI_ne1, n1_ne, n1_lt, uI_lt1, rdA_nI, rdQ_nI, rdL_nI, wrA_nI, wrL_nI, wrF_eq, wrJ_eq, dvd_nI, ite_true, ite_false, if_true, if_false, bI_t, bI_f, bI_0, decide_true, decide_false, Nat.one_ne_zero, Nat.reduceEqDiff, Nat.reduceLT, Nat.reduceLeDiff, Nat.reduceAdd, Nat.reduceMul, Nat.reduceSub, Nat.reduceDiv, h1]
    obtain ⟨h3, e3, hF3⟩ := c_shown (show k + 1 ≤ 10 by omega) p w2 ha hb hp
    have hF3' := hF2.tr hF3
    rw [e3, cl_some]
    have ih3 := ih h3 hF3'
    rw [smN] at ih3
    by_cases e : sgS t R a b (nI (k + 1)) p = 0
    · rw [if_pos e]
      rw [show bN (decide (¬ sgS t R a b (nI (k + 1)) p = 0)) = 0 by simp [e, bN]] at ih3
      exact ih3
    · rw [if_neg e]
      rw [show bN (decide (¬ sgS t R a b (nI (k + 1)) p = 0)) = 1 by simp [e, bN]] at ih3
      exact ih3
  · intro n h2 hF2
    rw [f_X0_caughtOf_L6]
    simp (disch := omega) only [clp_some, cl_some, jn_eq, uI_add, uI_mul, uI_lt, uI_lt0, uI_0lt, uI_eq0, uI_inj, uI_ne1, n1_ne, n1_lt, uI_lt1, rdA_nI, rdQ_nI, rdL_nI, wrA_nI, wrL_nI, wrF_eq, wrJ_eq, dvd_nI, ite_true, ite_false, if_true, if_false, bI_t, bI_f, bI_0, decide_true, decide_false, Nat.one_ne_zero, Nat.reduceEqDiff, Nat.reduceLT, Nat.reduceLeDiff, Nat.reduceAdd, Nat.reduceMul, Nat.reduceSub, Nat.reduceDiv]
    exact PO.mk hF2
def cgA (t : Tn) (R : Ru) (p part : Int32) : Int32 := if inR (-1) (nI 3) p = true then (if inR (nI 0) (nI 1) part = true then (if tF t < 2 then -1 else (if part = 0 then nI (cuN t R p / Nat.gcd (cuN t R p) (cdN (tF t))) else nI (cdN (tF t) / Nat.gcd (cuN t R p) (cdN (tF t))))) else -1) else -1
theorem inR_if01 {x : Int32} {σ : Type} (u v : σ) : (if x < 0 then u else if nI 1 < x then u else v) = (if inR (nI 0) (nI 1) x = true then v else u) := by
  unfold inR
  rw [← uI_z]
  by_cases q : x < 0
  · simp [q]
  · by_cases q2 : nI 1 < x <;> simp [q, q2]
theorem cdN_le {F : Nat} (h : F ≤ 16) : cdN F ≤ 1080 := by
  revert F
  decide +kernel
theorem cdN_pos {F : Nat} (h : F ≤ 16) : (cdN F = 0) = (F < 2) := by
  revert F
  decide +kernel
theorem c_caught {t : Tn} {R : Ru} {h : CH} (p part : Int32) (w : WC t R h) : PO TC h (f_X11_caught p part h) (cgA t R p part) := by
  have v3 := w.1.2.2.1
  have hle := cuN_le t R p
  have hD := cdN_le v3
  unfold f_X11_caught cgA
  rw [c_isPrinterOrNot, clp_some, ifB]
  cases hp : inR (-1) (nI 3) p
  · exact PO.mk Fr.rf
  simp only [if_true]
  rw [inR_if01]
  cases inR (nI 0) (nI 1) part
  · exact PO.mk Fr.rf
  simp only [if_true]
  refine PO.cl (v := if tF t < 2 then -1 else (if part = 0 then nI (cuN t R p / Nat.gcd (cuN t R p) (cdN (tF t))) else nI (cdN (tF t) / Nat.gcd (cuN t R p) (cdN (tF t))))) ?_ (fun h1 hF1 => PO.mk hF1)
  unfold f_X0_caughtPart
  have eD : nI (tF t) * (nI (tF t) - nI 1) / nI 2 * nI 9 = nI (cdN (tF t)) := by
    rw [cdN_eq _ v3]
    by_cases z : tF t = 0
    · rw [z]; decide
    · have b1 : tF t * (tF t - 1) ≤ 16 * 15 := Nat.mul_le_mul v3 (by omega)
      rw [uI_sub (by omega), uI_mul, uI_div (by omega) (by omega), uI_mul]
  rw [w.2.2.1.2.2.1, eD]
  refine loop_FU (fun n k => ∀ h2, Fr TC h h2 → PO TC h (f_X0_caughtPart_L29 p part (nI (cdN (tF t))) n (nI (smN k (fun a => smN (tF t - (a + 1)) (fun j => cgN t R p a (a + 1 + j))))) (nI k) h2) (if tF t < 2 then -1 else (if part = 0 then nI (cuN t R p / Nat.gcd (cuN t R p) (cdN (tF t))) else nI (cdN (tF t) / Nat.gcd (cuN t R p) (cdN (tF t)))))) (tF t) (by omega) ?_ ?_ h Fr.rf
  · intro n a ha ih h2 hF2
    have w2 := w.tc hF2
    rw [f_X0_caughtPart_L29, w2.2.2.1.2.2.1]
    simp (disch := omega) only [clp_some, cl_some, jn_eq, uI_add, uI_mul, uI_lt, uI_lt0, uI_0lt, uI_eq0, uI_inj, uI_ne1, n1_ne, n1_lt, uI_lt1, rdA_nI, rdQ_nI, rdL_nI, wrA_nI, wrL_nI, wrF_eq, wrJ_eq, dvd_nI, ite_true, ite_false, if_true, if_false, bI_t, bI_f, bI_0, decide_true, decide_false, Nat.one_ne_zero, Nat.reduceEqDiff, Nat.reduceLT, Nat.reduceLeDiff, Nat.reduceAdd, Nat.reduceMul, Nat.reduceSub, Nat.reduceDiv, ha]
    generalize hx0 : smN a (fun a => smN (tF t - (a + 1)) (fun j => cgN t R p a (a + 1 + j))) = x0
    have inner := loop_FU (fun n' j => ∀ h3, Fr TC h h3 → PO TC h (f_X0_caughtPart_L47 p part (nI (cdN (tF t))) (nI a) (fun x4_2 h_3 => f_X0_caughtPart_L29 p part (nI (cdN (tF t))) n x4_2 (nI (a + 1)) h_3) n' (nI (x0 + smN j (fun j => cgN t R p a (a + 1 + j)))) (nI (a + 1 + j)) h3) (if tF t < 2 then -1 else (if part = 0 then nI (cuN t R p / Nat.gcd (cuN t R p) (cdN (tF t))) else nI (cdN (tF t) / Nat.gcd (cuN t R p) (cdN (tF t)))))) (tF t - (a + 1)) (by omega) ?_ ?_ h2 hF2
    · exact inner
    · intro n' j hj ih' h3 hF3
      have w3 := w.tc hF3
      have hb : a + 1 + j < tF t := by omega
      rw [f_X0_caughtPart_L47, w3.2.2.1.2.2.1]
      simp (disch := omega) only [clp_some, cl_some, jn_eq, uI_add, uI_mul, uI_lt, uI_lt0, uI_0lt, uI_eq0, uI_inj, uI_ne1, n1_ne, n1_lt, uI_lt1, rdA_nI, rdQ_nI, rdL_nI, wrA_nI, wrL_nI, wrF_eq, wrJ_eq, dvd_nI, ite_true, ite_false, if_true, if_false, bI_t, bI_f, bI_0, decide_true, decide_false, Nat.one_ne_zero, Nat.reduceEqDiff, Nat.reduceLT, Nat.reduceLeDiff, Nat.reduceAdd, Nat.reduceMul, Nat.reduceSub, Nat.reduceDiv, hb]
      obtain ⟨h4, e4, hF4⟩ := c_caughtOf p w3 ha hb hp
      rw [e4, cl_some, uI_add]
      have ih4 := ih' h4 (hF3.tr hF4)
      rw [smN, ← Nat.add_assoc] at ih4
      exact ih4
    · intro n' h3 hF3
      have w3 := w.tc hF3
      rw [f_X0_caughtPart_L47, w3.2.2.1.2.2.1]
      have hb : ¬ a + 1 + (tF t - (a + 1)) < tF t := by omega
      simp (disch := omega) only [clp_some, cl_some, jn_eq, uI_add, uI_mul, uI_lt, uI_lt0, uI_0lt, uI_eq0, uI_inj, uI_ne1, n1_ne, n1_lt, uI_lt1, rdA_nI, rdQ_nI, rdL_nI, wrA_nI, wrL_nI, wrF_eq, wrJ_eq, dvd_nI, ite_true, ite_false, if_true, if_false, bI_t, bI_f, bI_0, decide_true, decide_false, Nat.one_ne_zero, Nat.reduceEqDiff, Nat.reduceLT, Nat.reduceLeDiff, Nat.reduceAdd, Nat.reduceMul, Nat.reduceSub, Nat.reduceDiv, hb]
      rw [← hx0]
      exact ih h3 hF3
  · intro n h2 hF2
    have w2 := w.tc hF2
    rw [f_X0_caughtPart_L29, w2.2.2.1.2.2.1]
    simp (disch := omega) only [clp_some, cl_some, jn_eq, uI_add, uI_mul, uI_lt, uI_lt0, uI_0lt, uI_eq0, uI_inj, uI_ne1, n1_ne, n1_lt, uI_lt1, rdA_nI, rdQ_nI, rdL_nI, wrA_nI, wrL_nI, wrF_eq, wrJ_eq, dvd_nI, ite_true, ite_false, if_true, if_false, bI_t, bI_f, bI_0, decide_true, decide_false, Nat.one_ne_zero, Nat.reduceEqDiff, Nat.reduceLT, Nat.reduceLeDiff, Nat.reduceAdd, Nat.reduceMul, Nat.reduceSub, Nat.reduceDiv, Nat.lt_irrefl]
    have hU : smN (tF t) (fun a => smN (tF t - (a + 1)) (fun j => cgN t R p a (a + 1 + j))) = cuN t R p := rfl
    rw [hU]
    unfold f_X0_commonDivisor
    rw [c_gcd (cuN t R p) (cdN (tF t)) 0 FU (by omega) (by omega) (by omega) (by show cuN t R p < 100000; omega), clp_some, Nat.gcd_comm]
    have hg : Nat.gcd (cuN t R p) (cdN (tF t)) ≤ 1080 := by
      by_cases z : cdN (tF t) = 0
      · rw [z, Nat.gcd_zero_right]; omega
      · exact Nat.le_trans (Nat.gcd_le_right _ (by omega)) hD
    by_cases z : tF t < 2
    · rw [if_pos z]
      have z2 : cdN (tF t) = 0 := by rw [cdN_pos v3]; exact z
      have z3 : cuN t R p = 0 := by omega
      rw [z2, z3]
      simp only [Nat.gcd_self, uI_eq0 (show 0 < 2147483648 by omega), if_true]
      exact PO.mk hF2
    · rw [if_neg z]
      have z2 : ¬ cdN (tF t) = 0 := by rw [cdN_pos v3]; exact z
      have z3 : ¬ Nat.gcd (cuN t R p) (cdN (tF t)) = 0 := fun q => z2 (Nat.eq_zero_of_gcd_eq_zero_right q)
      simp only [uI_eq0 (show Nat.gcd (cuN t R p) (cdN (tF t)) < 2147483648 by omega), z3, if_false]
      rw [dvd_nI (by omega) (by omega), dvd_nI (by omega) (by omega), uI_div (by omega) (by omega), uI_div (by omega) (by omega)]
      by_cases q : part = 0
      · rw [if_pos q, if_pos q]; exact PO.mk hF2
      · rw [if_neg q, if_neg q]; exact PO.mk hF2
theorem m_caught {bk : Nat} {t : Tn} {R : Ru} {h : CH} (p part : Int32) (w : WM bk t R h) : PO TM h (f_X12_caught p part h) (cgA t R p part) := by
  have v3 := w.1.2.2.1
  have hle := cuN_le t R p
  have hD := cdN_le v3
  unfold f_X12_caught cgA
  rw [m_isPrinterNo, clp_some, ifB]
  cases hp : inR (-1) (nI 3) p
  · exact PO.mk Fr.rf
  simp only [if_true]
  rw [m_isIn, clp_some, ifB]
  cases inR (nI 0) (nI 1) part
  · exact PO.mk Fr.rf
  simp only [if_true]
  rw [m_many w.2.2.1, clp_some]
  simp only [uI_lt (show tF t < 2147483648 by omega) (show 2 < 2147483648 by omega)]
  by_cases z : tF t < 2
  · rw [if_pos z, if_pos z]; exact PO.mk Fr.rf
  rw [if_neg z, if_neg z]
  generalize hv : (if part = 0 then nI (cuN t R p / Nat.gcd (cuN t R p) (cdN (tF t))) else nI (cdN (tF t) / Nat.gcd (cuN t R p) (cdN (tF t)))) = v
  refine loop_FU (fun n k => ∀ h2, Fr TM h h2 → PO TM h (f_X12_caught_L34 p part n (nI (smN k (fun a => smN (tF t - (a + 1)) (fun j => cgN t R p a (a + 1 + j))))) (nI (smN k (fun a => smN (tF t - (a + 1)) (fun _ => 9)))) (nI k) h2) v) (tF t) (by omega) ?_ ?_ h Fr.rf
  · intro n a ha ih h2 hF2
    have w2 := w.tm hF2
    rw [f_X12_caught_L34, m_many w2.2.2.1]
    simp (disch := omega) only [clp_some, cl_some, jn_eq, uI_add, uI_mul, uI_lt, uI_lt0, uI_0lt, uI_eq0, uI_inj, uI_ne1, n1_ne, n1_lt, uI_lt1, rdA_nI, rdQ_nI, rdL_nI, wrA_nI, wrL_nI, wrF_eq, wrJ_eq, dvd_nI, ite_true, ite_false, if_true, if_false, bI_t, bI_f, bI_0, decide_true, decide_false, Nat.one_ne_zero, Nat.reduceEqDiff, Nat.reduceLT, Nat.reduceLeDiff, Nat.reduceAdd, Nat.reduceMul, Nat.reduceSub, Nat.reduceDiv, ha]
    generalize hx0 : smN a (fun a => smN (tF t - (a + 1)) (fun j => cgN t R p a (a + 1 + j))) = x0
    generalize hy0 : smN a (fun a => smN (tF t - (a + 1)) (fun _ => 9)) = y0
    have inner := loop_FU (fun n' j => ∀ h3, Fr TM h h3 → PO TM h (f_X12_caught_L49 p part (nI a) (fun x3_9 x4_10 h_11 => f_X12_caught_L34 p part n x3_9 x4_10 (nI (a + 1)) h_11) n' (nI (x0 + smN j (fun j => cgN t R p a (a + 1 + j)))) (nI (y0 + smN j (fun _ => 9))) (nI (a + 1 + j)) h3) v) (tF t - (a + 1)) (by omega) ?_ ?_ h2 hF2
    · exact inner
    · intro n' j hj ih' h3 hF3
      have w3 := w.tm hF3
      have hb : a + 1 + j < tF t := by omega
      rw [f_X12_caught_L49, m_many w3.2.2.1]
      simp (disch := omega) only [clp_some, cl_some, jn_eq, uI_add, uI_mul, uI_lt, uI_lt0, uI_0lt, uI_eq0, uI_inj, uI_ne1, n1_ne, n1_lt, uI_lt1, rdA_nI, rdQ_nI, rdL_nI, wrA_nI, wrL_nI, wrF_eq, wrJ_eq, dvd_nI, ite_true, ite_false, if_true, if_false, bI_t, bI_f, bI_0, decide_true, decide_false, Nat.one_ne_zero, Nat.reduceEqDiff, Nat.reduceLT, Nat.reduceLeDiff, Nat.reduceAdd, Nat.reduceMul, Nat.reduceSub, Nat.reduceDiv, hb]
      generalize hx1 : x0 + smN j (fun j => cgN t R p a (a + 1 + j)) = x1
      generalize hy1 : y0 + smN j (fun _ => 9) = y1
      have inn := loop_FU (fun n'' s => ∀ h4, Fr TM h h4 → PO TM h (f_X12_caught_L61 p part (nI a) (nI (a + 1 + j)) (fun x3_14 x4_15 h_16 => f_X12_caught_L49 p part (nI a) (fun x3_9 x4_10 h_11 => f_X12_caught_L34 p part n x3_9 x4_10 (nI (a + 1)) h_11) n' x3_14 x4_15 (nI (a + 1 + j + 1)) h_16) n'' (nI (x1 + smN s (fun s => bN (decide (¬ sgS t R a (a + 1 + j) (nI (s + 1)) p = 0))))) (nI (y1 + s)) (nI (s + 1)) h4) v) 9 (by omega) ?_ ?_ h3 hF3
      · exact inn
      · intro n'' s hs ih'' h4 hF4
        have w4 := w.tm hF4
        rw [f_X12_caught_L61]
        have h9 : ¬ 9 < s + 1 := by omega
        simp (disch := omega) only [clp_some, cl_some, jn_eq, uI_add, uI_mul, uI_lt, uI_lt0, uI_0lt, uI_eq0, uI_inj, uI_ne1, n1_ne, n1_lt, uI_lt1, rdA_nI, rdQ_nI, rdL_nI, wrA_nI, wrL_nI, wrF_eq, wrJ_eq, dvd_nI, ite_true, ite_false, if_true, if_false, bI_t, bI_f, bI_0, decide_true, decide_false, Nat.one_ne_zero, Nat.reduceEqDiff, Nat.reduceLT, Nat.reduceLeDiff, Nat.reduceAdd, Nat.reduceMul, Nat.reduceSub, Nat.reduceDiv, h9]
        obtain ⟨h5, e5, hF5, s5⟩ := m_shown (show s + 1 ≤ 10 by omega) p w4 ha hb hp
        obtain ⟨h6, e6, hF6⟩ := s5
        have hF6' := (hF4.tr hF5).tr (hF6.mono SA_TM)
        rw [e5, cl_some, e6, cl_some]
        have ih6 := ih'' h6 hF6'
        rw [smN, ← Nat.add_assoc, ← Nat.add_assoc] at ih6
        by_cases e : sgS t R a (a + 1 + j) (nI (s + 1)) p = 0
        · rw [if_pos e]
          rw [show bN (decide (¬ sgS t R a (a + 1 + j) (nI (s + 1)) p = 0)) = 0 by simp [e, bN]] at ih6
          exact ih6
        · rw [if_neg e]
          rw [show bN (decide (¬ sgS t R a (a + 1 + j) (nI (s + 1)) p = 0)) = 1 by simp [e, bN]] at ih6
          exact ih6
      · intro n'' h4 hF4
        rw [f_X12_caught_L61]
        simp (disch := omega) only [clp_some, cl_some, jn_eq, uI_add, uI_mul, uI_lt, uI_lt0, uI_0lt, uI_eq0, uI_inj, uI_ne1, n1_ne, n1_lt, uI_lt1, rdA_nI, rdQ_nI, rdL_nI, wrA_nI, wrL_nI, wrF_eq, wrJ_eq, dvd_nI, ite_true, ite_false, if_true, if_false, bI_t, bI_f, bI_0, decide_true, decide_false, Nat.one_ne_zero, Nat.reduceEqDiff, Nat.reduceLT, Nat.reduceLeDiff, Nat.reduceAdd, Nat.reduceMul, Nat.reduceSub, Nat.reduceDiv]
        have ih4 := ih' h4 hF4
        rw [smN, smN, ← Nat.add_assoc, ← Nat.add_assoc, hx1, hy1] at ih4
        exact ih4
    · intro n' h3 hF3
      have w3 := w.tm hF3
      rw [f_X12_caught_L49, m_many w3.2.2.1]
      have hb : ¬ a + 1 + (tF t - (a + 1)) < tF t := by omega
      simp (disch := omega) only [clp_some, cl_some, jn_eq, uI_add, uI_mul, uI_lt, uI_lt0, uI_0lt, uI_eq0, uI_inj, uI_ne1, n1_ne, n1_lt, uI_lt1, rdA_nI, rdQ_nI, rdL_nI, wrA_nI, wrL_nI, wrF_eq, wrJ_eq, dvd_nI, ite_true, ite_false, if_true, if_false, bI_t, bI_f, bI_0, decide_true, decide_false, Nat.one_ne_zero, Nat.reduceEqDiff, Nat.reduceLT, Nat.reduceLeDiff, Nat.reduceAdd, Nat.reduceMul, Nat.reduceSub, Nat.reduceDiv, hb]
      rw [← hx0, ← hy0]
      exact ih h3 hF3
  · intro n h2 hF2
    have w2 := w.tm hF2
    rw [f_X12_caught_L34, m_many w2.2.2.1]
    simp (disch := omega) only [clp_some, cl_some, jn_eq, uI_add, uI_mul, uI_lt, uI_lt0, uI_0lt, uI_eq0, uI_inj, uI_ne1, n1_ne, n1_lt, uI_lt1, rdA_nI, rdQ_nI, rdL_nI, wrA_nI, wrL_nI, wrF_eq, wrJ_eq, dvd_nI, ite_true, ite_false, if_true, if_false, bI_t, bI_f, bI_0, decide_true, decide_false, Nat.one_ne_zero, Nat.reduceEqDiff, Nat.reduceLT, Nat.reduceLeDiff, Nat.reduceAdd, Nat.reduceMul, Nat.reduceSub, Nat.reduceDiv, Nat.lt_irrefl]
    have hU : smN (tF t) (fun a => smN (tF t - (a + 1)) (fun j => cgN t R p a (a + 1 + j))) = cuN t R p := rfl
    have hU2 : smN (tF t) (fun a => smN (tF t - (a + 1)) (fun _ => 9)) = cdN (tF t) := rfl
    rw [hU, hU2]
    unfold f_X12_common
    rw [m_gcd (cdN (tF t)) (cuN t R p) FU (by omega) (by omega) (by show cdN (tF t) < 100000; omega), clp_some]
    have hg : Nat.gcd (cuN t R p) (cdN (tF t)) ≤ 1080 := by
      by_cases z : cdN (tF t) = 0
      · rw [cdN_pos v3] at z; omega
      · exact Nat.le_trans (Nat.gcd_le_right _ (by omega)) hD
    have z2 : ¬ cdN (tF t) = 0 := by rw [cdN_pos v3]; exact z
    have z3 : ¬ Nat.gcd (cuN t R p) (cdN (tF t)) = 0 := fun q => z2 (Nat.eq_zero_of_gcd_eq_zero_right q)
    rw [dvd_nI (by omega) (by omega), dvd_nI (by omega) (by omega), uI_div (by omega) (by omega), uI_div (by omega) (by omega), ← hv]
    by_cases q : part = 0
    · rw [if_pos q, if_pos q]; exact PO.mk hF2
    · rw [if_neg q, if_neg q]; exact PO.mk hF2
