/-! the town: numbers t, and what the class's cells 7 .. 30 hold of it -/
abbrev Tn : Type := Nat × Nat × Nat × Int32 × (Nat → Int32) × (Nat → Int32) × (Nat → Nat → Int32) × (Nat → Int32) × (Nat → Int32) × (Nat → Int32)
def tP (t : Tn) : Nat := t.1
def tF (t : Tn) : Nat := t.2.1
def tK (t : Tn) : Nat := t.2.2.1
def tnr (t : Tn) : Int32 := t.2.2.2.1
def tkd (t : Tn) : Nat → Int32 := t.2.2.2.2.1
def tdr (t : Tn) : Nat → Int32 := t.2.2.2.2.2.1
def ttl (t : Tn) : Nat → Nat → Int32 := t.2.2.2.2.2.2.1
def tfr (t : Tn) : Nat → Int32 := t.2.2.2.2.2.2.2.1
def tbl (t : Tn) : Nat → Int32 := t.2.2.2.2.2.2.2.2.1
def tcs (t : Tn) : Nat → Int32 := t.2.2.2.2.2.2.2.2.2
/-- what the texts' numbers can be -/
def VT (t : Tn) : Prop := 3 ≤ tP t ∧ tP t ≤ 8 ∧ tF t ≤ 16 ∧ tK t ≤ 20 ∧ (∃ n, n ≤ 800 ∧ tnr t = nI n) ∧ (∀ f, f < tF t → ∃ n, n ≤ 3 ∧ tkd t f = nI n) ∧ (∀ f, f < tF t → ∃ n, n ≤ 9 ∧ tdr t f = nI n) ∧ (∀ f, f < tF t → ∀ i, i < tP t → ∃ n, n ≤ 99 ∧ ttl t f i = nI n) ∧ (∀ p, p < 4 → ∃ n, n ≤ 9 ∧ tbl t p = nI n) ∧ (∀ p, p < 4 → ∃ n, n ≤ 99 ∧ tcs t p = nI n) ∧ (∀ f, f < 16 → tF t ≤ f → tfr t f = nI 0) ∧ (∀ f, f < tF t → ∃ m, m < 2 ^ tF t ∧ tfr t f = nI m)
def CT (b : Nat) (t : Tn) (h : CH) : Prop := h.1 b 0 = nI (tP t) ∧ h.1 b 1 = tnr t ∧ h.1 b 2 = nI (tF t) ∧ h.1 b 3 = nI (tK t) ∧ (∀ f, f < tF t → h.1 (b + 2) f = tkd t f) ∧ (∀ f, f < tF t → h.1 (b + 3) f = tdr t f) ∧ (∀ f, f < tF t → ∀ i, i < tP t → h.1 (b + 5 + f) i = ttl t f i) ∧ (∀ f, f < 16 → h.1 (b + 21) f = tfr t f) ∧ (∀ p, p < 4 → h.1 (b + 22) p = tbl t p) ∧ (∀ p, p < 4 → h.1 (b + 23) p = tcs t p)
def isF (F : Nat) (x : Int32) : Bool := decide (¬ x < 0 ∧ x < nI F)
theorem isF_nI {F k : Nat} (hk : k < F) (hF : F < 2147483648) : isF F (nI k) = true := by
  unfold isF
  rw [decide_eq_true_iff, uI_lt0 (by omega), uI_lt (by omega) (by omega)]
  exact ⟨id, hk⟩
theorem isF_of {F : Nat} {x : Int32} (h : isF F x = true) (hF : F < 2147483648) : ∃ k, k < F ∧ x = nI k := by
  unfold isF at h
  rw [decide_eq_true_iff] at h
  exact uI_in h.1 h.2 hF
theorem c_has {h : CH} {F : Nat} (x : Int32) (hF : h.1 7 2 = nI F) (h16 : F ≤ 16) : f_X9_has_7 x h = some (bI (isF F x)) := by
  unfold f_X9_has_7
  rw [hF]
  by_cases h0 : x < 0
  · simp [h0, isF, bI]
  · by_cases h1 : x < nI F
    · obtain ⟨k, hk, rfl⟩ := uI_in h0 h1 (by omega)
      have hk2 : k < 16 := by omega
      simp (disch := omega) only [clp_some, cl_some, jn_eq, uI_add, uI_mul, uI_lt, uI_lt0, uI_0lt, uI_eq0, uI_inj, uI_ne1, n1_ne, n1_lt, uI_lt1, rdA_nI, rdQ_nI, rdL_nI, wrA_nI, wrL_nI, wrF_eq, wrJ_eq, dvd_nI, ite_true, ite_false, if_true, if_false, bI_t, bI_f, bI_0, decide_true, decide_false, Nat.one_ne_zero, Nat.reduceEqDiff, Nat.reduceLT, Nat.reduceLeDiff, Nat.reduceAdd, Nat.reduceMul, Nat.reduceSub, Nat.reduceDiv, isF_nI, hk, hk2]
    · simp [h0, h1, isF, bI]
theorem c_has1 {h : CH} {F k : Nat} (hF : h.1 7 2 = nI F) (h16 : F ≤ 16) (hk : k < F) : f_X9_has_7 (nI k) h = some (nI 1) := by
  rw [c_has _ hF h16, isF_nI hk (by omega)]
  rfl
/-- a measure in a year -/
def mz (t : Tn) (f i : Nat) (y : Int32) : Int32 := if nI i - nI i / nI 2 * nI 2 = 0 then mx (nI 0) (mn (nI 99) (ttl t f i + tdr t f * y / nI 10)) else mx (nI 0) (mn (nI 99) (ttl t f i + -(tdr t f * y / nI 10)))
theorem c_measureIn {h : CH} {t : Tn} {f i : Nat} (y : Int32) (hC : CT 7 t h) (hV : VT t) (hf : f < tF t) (hi : i < tP t) : f_X9_measureIn_7 (nI f) (nI i) y h = some (mz t f i y) := by
  obtain ⟨v1, v2, v3, v4, -⟩ := hV
  obtain ⟨c0, c1, c2, c3, ck, cd, ct, -⟩ := hC
  have cd : h.1 10 f = tdr t f := cd f hf
  have ct : h.1 (12 + f) i = ttl t f i := ct f hf i hi
  have hi8 : i < 8 := by omega
  unfold f_X9_measureIn_7 mz
  rw [c_has1 c2 v3 hf]
  simp (disch := omega) only [clp_some, cl_some, jn_eq, uI_add, uI_mul, uI_lt, uI_lt0, uI_0lt, uI_eq0, uI_inj, uI_ne1, n1_ne, n1_lt, uI_lt1, rdA_nI, rdQ_nI, rdL_nI, wrA_nI, wrL_nI, wrF_eq, wrJ_eq, dvd_nI, ite_true, ite_false, if_true, if_false, bI_t, bI_f, bI_0, decide_true, decide_false, Nat.one_ne_zero, Nat.reduceEqDiff, Nat.reduceLT, Nat.reduceLeDiff, Nat.reduceAdd, Nat.reduceMul, Nat.reduceSub, Nat.reduceDiv, hi8, cd, ct]
  by_cases e : nI i - nI i / nI 2 * nI 2 = 0
  · simp (disch := omega) only [e, clp_some, cl_some, jn_eq, uI_add, uI_mul, uI_lt, uI_lt0, uI_0lt, uI_eq0, uI_inj, uI_ne1, n1_ne, n1_lt, uI_lt1, rdA_nI, rdQ_nI, rdL_nI, wrA_nI, wrL_nI, wrF_eq, wrJ_eq, dvd_nI, ite_true, ite_false, if_true, if_false, bI_t, bI_f, bI_0, decide_true, decide_false, Nat.one_ne_zero, Nat.reduceEqDiff, Nat.reduceLT, Nat.reduceLeDiff, Nat.reduceAdd, Nat.reduceMul, Nat.reduceSub, Nat.reduceDiv]
  · simp (disch := omega) only [e, clp_some, cl_some, jn_eq, uI_add, uI_mul, uI_lt, uI_lt0, uI_0lt, uI_eq0, uI_inj, uI_ne1, n1_ne, n1_lt, uI_lt1, rdA_nI, rdQ_nI, rdL_nI, wrA_nI, wrL_nI, wrF_eq, wrJ_eq, dvd_nI, ite_true, ite_false, if_true, if_false, bI_t, bI_f, bI_0, decide_true, decide_false, Nat.one_ne_zero, Nat.reduceEqDiff, Nat.reduceLT, Nat.reduceLeDiff, Nat.reduceAdd, Nat.reduceMul, Nat.reduceSub, Nat.reduceDiv]
/-- a mix's measure -/
def mixv (t : Tn) (a b : Nat) (s : Int32) (i : Nat) : Int32 := (ttl t a i * s + ttl t b i * (nI 10 - s)) / nI 10
theorem c_mixed {h : CH} {t : Tn} {a b i : Nat} (s : Int32) (hC : CT 7 t h) (hV : VT t) (ha : a < tF t) (hb : b < tF t) (hi : i < tP t) : f_X9_mixed_7 (nI a) (nI b) s (nI i) h = some (mixv t a b s i) := by
  obtain ⟨v1, v2, v3, v4, -⟩ := hV
  obtain ⟨c0, c1, c2, c3, ck, cd, ct, -⟩ := hC
  have ca : h.1 (12 + a) i = ttl t a i := ct a ha i hi
  have cb : h.1 (12 + b) i = ttl t b i := ct b hb i hi
  have hi8 : i < 8 := by omega
  unfold f_X9_mixed_7 mixv
  rw [c_has1 c2 v3 ha, c_has1 c2 v3 hb]
  simp (disch := omega) only [clp_some, cl_some, jn_eq, uI_add, uI_mul, uI_lt, uI_lt0, uI_0lt, uI_eq0, uI_inj, uI_ne1, n1_ne, n1_lt, uI_lt1, rdA_nI, rdQ_nI, rdL_nI, wrA_nI, wrL_nI, wrF_eq, wrJ_eq, dvd_nI, ite_true, ite_false, if_true, if_false, bI_t, bI_f, bI_0, decide_true, decide_false, Nat.one_ne_zero, Nat.reduceEqDiff, Nat.reduceLT, Nat.reduceLeDiff, Nat.reduceAdd, Nat.reduceMul, Nat.reduceSub, Nat.reduceDiv, hi8, ca, cb]
/-- how far two rows are -/
def farS (P : Nat) (u v : Nat → Int32) : Int32 := smI P (fun i => ab (u i - v i))
theorem c_apart {h : CH} {P : Nat} (a b : Nat) (hP : h.1 7 0 = nI P) (h8 : P ≤ 8) : f_X9_apart_7 a b h = some (farS P (h.1 a) (h.1 b)) := by
  unfold f_X9_apart_7 farS
  refine loop_FU (fun n k => f_X9_apart_7_L5 a b h n (smI k (fun i => ab (h.1 a i - h.1 b i))) (nI k) = some (smI P (fun i => ab (h.1 a i - h.1 b i)))) P (by omega) ?_ ?_
  · intro n k hk ih
    show f_X9_apart_7_L5 _ _ _ (n + 1) _ _ = _
    rw [f_X9_apart_7_L5, hP]
    have hk8 : k < 8 := by omega
    simp (disch := omega) only [clp_some, cl_some, jn_eq, uI_add, uI_mul, uI_lt, uI_lt0, uI_0lt, uI_eq0, uI_inj, uI_ne1, n1_ne, n1_lt, uI_lt1, rdA_nI, rdQ_nI, rdL_nI, wrA_nI, wrL_nI, wrF_eq, wrJ_eq, dvd_nI, ite_true, ite_false, if_true, if_false, bI_t, bI_f, bI_0, decide_true, decide_false, Nat.one_ne_zero, Nat.reduceEqDiff, Nat.reduceLT, Nat.reduceLeDiff, Nat.reduceAdd, Nat.reduceMul, Nat.reduceSub, Nat.reduceDiv, hk, hk8]
    exact ih
  · intro n
    show f_X9_apart_7_L5 _ _ _ (n + 1) _ _ = _
    rw [f_X9_apart_7_L5, hP]
    simp (disch := omega) only [clp_some, cl_some, jn_eq, uI_add, uI_mul, uI_lt, uI_lt0, uI_0lt, uI_eq0, uI_inj, uI_ne1, n1_ne, n1_lt, uI_lt1, rdA_nI, rdQ_nI, rdL_nI, wrA_nI, wrL_nI, wrF_eq, wrJ_eq, dvd_nI, ite_true, ite_false, if_true, if_false, bI_t, bI_f, bI_0, decide_true, decide_false, Nat.one_ne_zero, Nat.reduceEqDiff, Nat.reduceLT, Nat.reduceLeDiff, Nat.reduceAdd, Nat.reduceMul, Nat.reduceSub, Nat.reduceDiv, Nat.lt_irrefl]
theorem c_kindOf {h : CH} {t : Tn} {f : Nat} (hC : CT 7 t h) (hV : VT t) (hf : f < tF t) : f_X9_kindOf_7 (nI f) h = some (tkd t f) := by
  obtain ⟨v1, v2, v3, v4, -⟩ := hV
  obtain ⟨c0, c1, c2, c3, ck, -⟩ := hC
  have ck : h.1 9 f = tkd t f := ck f hf
  unfold f_X9_kindOf_7
  rw [c_has1 c2 v3 hf]
  simp (disch := omega) only [clp_some, cl_some, jn_eq, uI_add, uI_mul, uI_lt, uI_lt0, uI_0lt, uI_eq0, uI_inj, uI_ne1, n1_ne, n1_lt, uI_lt1, rdA_nI, rdQ_nI, rdL_nI, wrA_nI, wrL_nI, wrF_eq, wrJ_eq, dvd_nI, ite_true, ite_false, if_true, if_false, bI_t, bI_f, bI_0, decide_true, decide_false, Nat.one_ne_zero, Nat.reduceEqDiff, Nat.reduceLT, Nat.reduceLeDiff, Nat.reduceAdd, Nat.reduceMul, Nat.reduceSub, Nat.reduceDiv, ck]
