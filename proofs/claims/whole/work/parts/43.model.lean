/-! the reference's small methods -/
def inR (a b x : Int32) : Bool := decide (¬ x < a ∧ ¬ b < x)
theorem m_isIn (x a b : Int32) (h : CH) : f_X12_isIn x a b h = some (bI (inR a b x)) := by
  unfold f_X12_isIn inR
  by_cases h1 : x < a
  · simp [h1, bI]
  · by_cases h2 : b < x
    · simp [h1, h2, bI]
    · simp [h1, h2, bI]
theorem inR_F {F : Nat} (hF : F < 2147483648) (x : Int32) : inR (nI 0) (nI F - nI 1) x = isF F x := by
  unfold inR isF
  congr 1
  have e1 : (nI F - nI 1).toInt = (F : Int) - 1 := by
    by_cases h0 : F = 0
    · subst h0; decide
    · rw [uI_sub (by omega), uI_toInt (by omega)]; omega
  have e2 : (nI F).toInt = (F : Int) := uI_toInt hF
  rw [← uI_z]
  simp only [Int32.lt_iff_toInt_lt, e1, e2]
  refine propext ⟨fun h => ⟨h.1, by omega⟩, fun h => ⟨h.1, by omega⟩⟩
theorem m_many {b : Nat} {t : Tn} {h : CH} (hM : MT b t h) : f_X12_many h = some (nI (tF t)) := by
  obtain ⟨c0, c1, c2, c3, c4, c5, -⟩ := hM
  unfold f_X12_many
  rw [c1]
  simp (disch := omega) only [clp_some, cl_some, jn_eq, uI_add, uI_mul, uI_lt, uI_lt0, uI_0lt, uI_eq0, uI_inj, uI_ne1, n1_ne, n1_lt, uI_lt1, rdA_nI, rdQ_nI, rdL_nI, wrA_nI, wrL_nI, wrF_eq, wrJ_eq, dvd_nI, ite_true, ite_false, if_true, if_false, bI_t, bI_f, bI_0, decide_true, decide_false, Nat.one_ne_zero, Nat.reduceEqDiff, Nat.reduceLT, Nat.reduceLeDiff, Nat.reduceAdd, Nat.reduceMul, Nat.reduceSub, Nat.reduceDiv, c4]
theorem m_pointMany {b : Nat} {t : Tn} {h : CH} (hM : MT b t h) : f_X12_pointMany h = some (nI (tP t)) := by
  obtain ⟨c0, c1, c2, c3, c4, c5, -⟩ := hM
  unfold f_X12_pointMany
  rw [c1]
  simp (disch := omega) only [clp_some, cl_some, jn_eq, uI_add, uI_mul, uI_lt, uI_lt0, uI_0lt, uI_eq0, uI_inj, uI_ne1, n1_ne, n1_lt, uI_lt1, rdA_nI, rdQ_nI, rdL_nI, wrA_nI, wrL_nI, wrF_eq, wrJ_eq, dvd_nI, ite_true, ite_false, if_true, if_false, bI_t, bI_f, bI_0, decide_true, decide_false, Nat.one_ne_zero, Nat.reduceEqDiff, Nat.reduceLT, Nat.reduceLeDiff, Nat.reduceAdd, Nat.reduceMul, Nat.reduceSub, Nat.reduceDiv, c2]
theorem m_isFace {b : Nat} {t : Tn} {h : CH} (hM : MT b t h) (hV : VT t) (x : Int32) : f_X12_isFace x h = some (bI (isF (tF t) x)) := by
  have := hV.2.2.1
  unfold f_X12_isFace
  rw [m_many hM, clp_some, m_isIn, clp_some, inR_F (by omega), rz_b]
def wh (y l : Int32) : Bool := inR (nI 0) (nI 60) y && inR (nI 0) (nI 9) l
theorem m_isWhen (y l : Int32) (h : CH) : f_X12_isWhen y l h = some (bI (wh y l)) := by
  unfold f_X12_isWhen wh
  rw [m_isIn, clp_some, m_isIn]
  cases inR (nI 0) (nI 60) y <;> cases inR (nI 0) (nI 9) l <;> simp [bI, clp_some] <;> decide
theorem m_isPrinterNo (p : Int32) (h : CH) : f_X12_isPrinterNo p h = some (bI (inR (-1) (nI 3) p)) := by
  unfold f_X12_isPrinterNo
  rw [m_isIn, clp_some, rz_b]
theorem m_sizeOf (x : Int32) (h : CH) : f_X12_sizeOf x h = some (ab x) := by
  unfold f_X12_sizeOf
  exact abs_eq x some
theorem m_lit (v l : Int32) (h : CH) : f_X12_lit v l h = some (mn (nI 99) (v + l)) := by
  unfold f_X12_lit
  exact lit_eq (v + l) some
theorem m_measureOf {b : Nat} {t : Tn} {h : CH} {f i : Nat} (y : Int32) (hM : MT b t h) (hV : VT t) (hf : f < tF t) (hi : i < tP t) : f_X12_measureOf (nI f) (nI i) y h = some (mz t f i y) := by
  obtain ⟨v1, v2, v3, v4, -⟩ := hV
  obtain ⟨c0, c1, c2, c3, c4, c5, ck, cd, ct, -⟩ := hM
  have cd := cd f hf
  have ct := ct f hf i hi
  unfold f_X12_measureOf mz
  rw [c1]
  simp (disch := omega) only [clp_some, cl_some, jn_eq, uI_add, uI_mul, uI_lt, uI_lt0, uI_0lt, uI_eq0, uI_inj, uI_ne1, n1_ne, n1_lt, uI_lt1, rdA_nI, rdQ_nI, rdL_nI, wrA_nI, wrL_nI, wrF_eq, wrJ_eq, dvd_nI, ite_true, ite_false, if_true, if_false, bI_t, bI_f, bI_0, decide_true, decide_false, Nat.one_ne_zero, Nat.reduceEqDiff, Nat.reduceLT, Nat.reduceLeDiff, Nat.reduceAdd, Nat.reduceMul, Nat.reduceSub, Nat.reduceDiv, cd, ct]
  by_cases e : nI i - nI i / nI 2 * nI 2 = 0
  · rw [if_pos e, if_pos e]; exact clamp_eq _ some
  · rw [if_neg e, if_neg e]; exact clamp_eq _ some
/-- a measure that a printer prints -/
def pri (t : Tn) (p v : Int32) : Int32 := if p < 0 then v else v - (v - v / (tbl t p.toNatClampNeg + nI 1) * (tbl t p.toNatClampNeg + nI 1))
/-- a row with its first P numbers laid anew -/
def rowS (h : CH) (c P : Nat) (g : Nat → Int32) : CH := (fun x j => if x = c ∧ j < P then g j else h.1 x j, h.2)
theorem rowS_0 (h : CH) (c : Nat) (g : Nat → Int32) : rowS h c 0 g = h := by
  unfold rowS
  simp
theorem rowS_s (h : CH) (c k : Nat) (g : Nat → Int32) : sI (rowS h c k g) c k (g k) = rowS h c (k + 1) g := by
  unfold rowS sI
  refine Prod.ext (funext fun x => funext fun j => ?_) rfl
  show (if x = c ∧ j = k then g k else if x = c ∧ j < k then g j else h.1 x j) = (if x = c ∧ j < k + 1 then g j else h.1 x j)
  by_cases e : x = c
  · by_cases e2 : j = k
    · subst e2; simp [e]
    · by_cases e3 : j < k
      · simp [e, e2, e3, Nat.lt_succ_of_lt e3]
      · simp [e, e2, e3, show ¬ j < k + 1 by omega]
  · simp [e]
theorem rowS_in {h : CH} {c P j : Nat} {g : Nat → Int32} (hj : j < P) : (rowS h c P g).1 c j = g j := by
  show (if c = c ∧ j < P then g j else _) = _
  rw [if_pos ⟨rfl, hj⟩]
theorem rowS_ne {h : CH} {c P x : Nat} {g : Nat → Int32} (hx : x ≠ c) : (rowS h c P g).1 x = h.1 x := by
  funext j
  show (if x = c ∧ j < P then g j else h.1 x j) = h.1 x j
  rw [if_neg (fun e => hx e.1)]
theorem Fr.rowS {S : Nat → Nat → Prop} {h : CH} {c P : Nat} {g : Nat → Int32} (hS : ∀ k, S c k) : Fr S h (rowS h c P g) := by
  refine ⟨fun x j hx => ?_, rfl⟩
  show (if x = c ∧ j < P then g j else h.1 x j) = h.1 x j
  rw [if_neg (fun e => hx (by rw [e.1]; exact hS j))]
theorem MT.row {b : Nat} {t : Tn} {h : CH} {c P : Nat} {g : Nat → Int32} (hM : MT b t h) (hc : 164 ≤ c) : MT b t (rowS h c P g) := hM.fr (S := fun x _ => x = c) (Fr.rowS (fun _ => rfl)) (fun a k h1 h2 h3 => by omega) (by omega)
theorem m_layMix {bk : Nat} {t : Tn} {h : CH} {a b : Nat} (s p : Int32) (hM : MT bk t h) (hV : VT t) (ha : a < tF t) (hb : b < tF t) (hp : inR (-1) (nI 3) p = true) : f_X12_layMix (nI a) (nI b) s p h = some ((), rowS h 176 (tP t) (fun i => pri t p (mixv t a b s i))) := by
  have hV' := hV
  obtain ⟨v1, v2, v3, v4, v5, v6, v7, v8, v9, -⟩ := hV'
  unfold f_X12_layMix
  have G := loop_FU (fun n k => f_X12_layMix_L3 (nI a) (nI b) s p n (nI k) (rowS h 176 k (fun i => pri t p (mixv t a b s i))) = some ((), rowS h 176 (tP t) (fun i => pri t p (mixv t a b s i)))) (tP t) (by omega) ?_ ?_
  · rw [rowS_0] at G; exact G
  · intro n k hk ih
    show f_X12_layMix_L3 _ _ _ _ (n + 1) _ _ = _
    have hM2 : MT bk t (rowS h 176 k (fun i => pri t p (mixv t a b s i))) := hM.row (by decide)
    rw [f_X12_layMix_L3, m_pointMany hM2]
    simp (disch := omega) only [clp_some, cl_some, jn_eq, uI_add, uI_mul, uI_lt, uI_lt0, uI_0lt, uI_eq0, uI_inj, uI_ne1, n1_ne, n1_lt, uI_lt1, rdA_nI, rdQ_nI, rdL_nI, wrA_nI, wrL_nI, wrF_eq, wrJ_eq, dvd_nI, ite_true, ite_false, if_true, if_false, bI_t, bI_f, bI_0, decide_true, decide_false, Nat.one_ne_zero, Nat.reduceEqDiff, Nat.reduceLT, Nat.reduceLeDiff, Nat.reduceAdd, Nat.reduceMul, Nat.reduceSub, Nat.reduceDiv, hk]
    rw [m_measureOf _ hM2 hV ha hk, m_measureOf _ hM2 hV hb hk, mz0 hV ha hk, mz0 hV hb hk]
    simp only [clp_some]
    have hk8 : k < 8 := by omega
    have em : (ttl t a k * s + ttl t b k * (nI 10 - s)) / nI 10 = mixv t a b s k := rfl
    rw [em]
    by_cases hp0 : p < 0
    · have e9 : pri t p (mixv t a b s k) = mixv t a b s k := by unfold pri; rw [if_pos hp0]
      rw [if_pos hp0]
      have := rowS_s h 176 k (fun i => pri t p (mixv t a b s i))
      try dsimp only at this
      rw [e9] at this
      rw [this]
      exact ih
    · have h3 : ¬ nI 3 < p := (of_decide_eq_true hp).2
      obtain ⟨q, hq, rfl⟩ := uI_of hp0
      rw [uI_lt (by omega) hq] at h3
      obtain ⟨c0, c1, c2, c3, c4, c5, c6, c7, c8, c9, c10, c11⟩ := hM2
      obtain ⟨w, hw, ew⟩ := v9 q (by omega)
      rw [if_neg hp0, c1]
      simp (disch := omega) only [clp_some, cl_some, jn_eq, uI_add, uI_mul, uI_lt, uI_lt0, uI_0lt, uI_eq0, uI_inj, uI_ne1, n1_ne, n1_lt, uI_lt1, rdA_nI, rdQ_nI, rdL_nI, wrA_nI, wrL_nI, wrF_eq, wrJ_eq, dvd_nI, ite_true, ite_false, if_true, if_false, bI_t, bI_f, bI_0, decide_true, decide_false, Nat.one_ne_zero, Nat.reduceEqDiff, Nat.reduceLT, Nat.reduceLeDiff, Nat.reduceAdd, Nat.reduceMul, Nat.reduceSub, Nat.reduceDiv, c10 q (by omega), ew]
      have e9 : pri t (nI q) (mixv t a b s k) = mixv t a b s k - (mixv t a b s k - mixv t a b s k / nI (w + 1) * nI (w + 1)) := by unfold pri; rw [if_neg hp0, uI_toNat hq, ew, uI_add]
      have := rowS_s h 176 k (fun i => pri t (nI q) (mixv t a b s i))
      try dsimp only at this
      rw [e9] at this
      rw [this]
      exact ih
  · intro n
    show f_X12_layMix_L3 _ _ _ _ (n + 1) _ _ = _
    have hM2 : MT bk t (rowS h 176 (tP t) (fun i => pri t p (mixv t a b s i))) := hM.row (by decide)
    rw [f_X12_layMix_L3, m_pointMany hM2]
    simp (disch := omega) only [clp_some, cl_some, jn_eq, uI_add, uI_mul, uI_lt, uI_lt0, uI_0lt, uI_eq0, uI_inj, uI_ne1, n1_ne, n1_lt, uI_lt1, rdA_nI, rdQ_nI, rdL_nI, wrA_nI, wrL_nI, wrF_eq, wrJ_eq, dvd_nI, ite_true, ite_false, if_true, if_false, bI_t, bI_f, bI_0, decide_true, decide_false, Nat.one_ne_zero, Nat.reduceEqDiff, Nat.reduceLT, Nat.reduceLeDiff, Nat.reduceAdd, Nat.reduceMul, Nat.reduceSub, Nat.reduceDiv, Nat.lt_irrefl]
/-- a live measure -/
def lvz (t : Tn) (f : Nat) (y l : Int32) (i : Nat) : Int32 := mn (nI 99) (mz t f i y + l)
theorem m_farLive {bk : Nat} {t : Tn} {h : CH} {f : Nat} (y l : Int32) (hM : MT bk t h) (hV : VT t) (hf : f < tF t) : f_X12_farLive (nI f) y l h = some (farS (tP t) (lvz t f y l) (h.1 176)) := by
  have v2 := hV.2.1
  unfold f_X12_farLive farS
  refine loop_FU (fun n k => f_X12_farLive_L6 (nI f) y l h n (smI k (fun i => ab (lvz t f y l i - h.1 176 i))) (nI k) = some (smI (tP t) (fun i => ab (lvz t f y l i - h.1 176 i)))) (tP t) (by omega) ?_ ?_
  · intro n k hk ih
    show f_X12_farLive_L6 _ _ _ _ (n + 1) _ _ = _
    rw [f_X12_farLive_L6, m_pointMany hM]
    simp (disch := omega) only [clp_some, cl_some, jn_eq, uI_add, uI_mul, uI_lt, uI_lt0, uI_0lt, uI_eq0, uI_inj, uI_ne1, n1_ne, n1_lt, uI_lt1, rdA_nI, rdQ_nI, rdL_nI, wrA_nI, wrL_nI, wrF_eq, wrJ_eq, dvd_nI, ite_true, ite_false, if_true, if_false, bI_t, bI_f, bI_0, decide_true, decide_false, Nat.one_ne_zero, Nat.reduceEqDiff, Nat.reduceLT, Nat.reduceLeDiff, Nat.reduceAdd, Nat.reduceMul, Nat.reduceSub, Nat.reduceDiv, hk]
    rw [m_measureOf _ hM hV hf hk, clp_some, m_lit, clp_some, m_sizeOf, clp_some]
    exact ih
  · intro n
    show f_X12_farLive_L6 _ _ _ _ (n + 1) _ _ = _
    rw [f_X12_farLive_L6, m_pointMany hM]
    simp (disch := omega) only [clp_some, cl_some, jn_eq, uI_add, uI_mul, uI_lt, uI_lt0, uI_0lt, uI_eq0, uI_inj, uI_ne1, n1_ne, n1_lt, uI_lt1, rdA_nI, rdQ_nI, rdL_nI, wrA_nI, wrL_nI, wrF_eq, wrJ_eq, dvd_nI, ite_true, ite_false, if_true, if_false, bI_t, bI_f, bI_0, decide_true, decide_false, Nat.one_ne_zero, Nat.reduceEqDiff, Nat.reduceLT, Nat.reduceLeDiff, Nat.reduceAdd, Nat.reduceMul, Nat.reduceSub, Nat.reduceDiv, Nat.lt_irrefl]
theorem m_farBeside {bk : Nat} {t : Tn} {h : CH} (hM : MT bk t h) (hV : VT t) : f_X12_farBeside h = some (farS (tP t) (h.1 176) (h.1 177)) := by
  have v2 := hV.2.1
  unfold f_X12_farBeside farS
  refine loop_FU (fun n k => f_X12_farBeside_L4 h n (smI k (fun i => ab (h.1 176 i - h.1 177 i))) (nI k) = some (smI (tP t) (fun i => ab (h.1 176 i - h.1 177 i)))) (tP t) (by omega) ?_ ?_
  · intro n k hk ih
    show f_X12_farBeside_L4 _ (n + 1) _ _ = _
    rw [f_X12_farBeside_L4, m_pointMany hM]
    simp (disch := omega) only [clp_some, cl_some, jn_eq, uI_add, uI_mul, uI_lt, uI_lt0, uI_0lt, uI_eq0, uI_inj, uI_ne1, n1_ne, n1_lt, uI_lt1, rdA_nI, rdQ_nI, rdL_nI, wrA_nI, wrL_nI, wrF_eq, wrJ_eq, dvd_nI, ite_true, ite_false, if_true, if_false, bI_t, bI_f, bI_0, decide_true, decide_false, Nat.one_ne_zero, Nat.reduceEqDiff, Nat.reduceLT, Nat.reduceLeDiff, Nat.reduceAdd, Nat.reduceMul, Nat.reduceSub, Nat.reduceDiv, hk, m_sizeOf]
    exact ih
  · intro n
    show f_X12_farBeside_L4 _ (n + 1) _ _ = _
    rw [f_X12_farBeside_L4, m_pointMany hM]
    simp (disch := omega) only [clp_some, cl_some, jn_eq, uI_add, uI_mul, uI_lt, uI_lt0, uI_0lt, uI_eq0, uI_inj, uI_ne1, n1_ne, n1_lt, uI_lt1, rdA_nI, rdQ_nI, rdL_nI, wrA_nI, wrL_nI, wrF_eq, wrJ_eq, dvd_nI, ite_true, ite_false, if_true, if_false, bI_t, bI_f, bI_0, decide_true, decide_false, Nat.one_ne_zero, Nat.reduceEqDiff, Nat.reduceLT, Nat.reduceLeDiff, Nat.reduceAdd, Nat.reduceMul, Nat.reduceSub, Nat.reduceDiv, Nat.lt_irrefl]
theorem m_putBeside {bk : Nat} {t : Tn} {h : CH} (hM : MT bk t h) (hV : VT t) : f_X12_putBeside h = some ((), rowS h 177 (tP t) (h.1 176)) := by
  have v2 := hV.2.1
  unfold f_X12_putBeside
  have G := loop_FU (fun n k => f_X12_putBeside_L2 n (nI k) (rowS h 177 k (h.1 176)) = some ((), rowS h 177 (tP t) (h.1 176))) (tP t) (by omega) ?_ ?_
  · rw [rowS_0] at G; exact G
  · intro n k hk ih
    show f_X12_putBeside_L2 (n + 1) _ _ = _
    have hM2 : MT bk t (rowS h 177 k (h.1 176)) := hM.row (by decide)
    rw [f_X12_putBeside_L2, m_pointMany hM2]
    simp (disch := omega) only [clp_some, cl_some, jn_eq, uI_add, uI_mul, uI_lt, uI_lt0, uI_0lt, uI_eq0, uI_inj, uI_ne1, n1_ne, n1_lt, uI_lt1, rdA_nI, rdQ_nI, rdL_nI, wrA_nI, wrL_nI, wrF_eq, wrJ_eq, dvd_nI, ite_true, ite_false, if_true, if_false, bI_t, bI_f, bI_0, decide_true, decide_false, Nat.one_ne_zero, Nat.reduceEqDiff, Nat.reduceLT, Nat.reduceLeDiff, Nat.reduceAdd, Nat.reduceMul, Nat.reduceSub, Nat.reduceDiv, hk]
    rw [rowS_ne (by decide), rowS_s]
    exact ih
  · intro n
    show f_X12_putBeside_L2 (n + 1) _ _ = _
    have hM2 : MT bk t (rowS h 177 (tP t) (h.1 176)) := hM.row (by decide)
    rw [f_X12_putBeside_L2, m_pointMany hM2]
    simp (disch := omega) only [clp_some, cl_some, jn_eq, uI_add, uI_mul, uI_lt, uI_lt0, uI_0lt, uI_eq0, uI_inj, uI_ne1, n1_ne, n1_lt, uI_lt1, rdA_nI, rdQ_nI, rdL_nI, wrA_nI, wrL_nI, wrF_eq, wrJ_eq, dvd_nI, ite_true, ite_false, if_true, if_false, bI_t, bI_f, bI_0, decide_true, decide_false, Nat.one_ne_zero, Nat.reduceEqDiff, Nat.reduceLT, Nat.reduceLeDiff, Nat.reduceAdd, Nat.reduceMul, Nat.reduceSub, Nat.reduceDiv, Nat.lt_irrefl]
