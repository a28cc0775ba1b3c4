/-! words and numbers of a text -/
def nL (n : Nat) : Int64 := Int64.ofNat n
theorem nL_inj {a b : Nat} (ha : a < 2 ^ 64) (hb : b < 2 ^ 64) : (nL a = nL b) = (a = b) := by
  refine propext ⟨fun e => ?_, fun e => by rw [e]⟩
  have e2 : BitVec.ofNat 64 a = BitVec.ofNat 64 b := congrArg Int64.toBitVec e
  have e3 := congrArg BitVec.toNat e2
  rw [BitVec.toNat_ofNat, BitVec.toNat_ofNat, Nat.mod_eq_of_lt ha, Nat.mod_eq_of_lt hb] at e3
  exact e3
theorem nL_i32 (k : Nat) : (nL k).toInt32 = nI k := Int64.toInt32_ofNat'
theorem nI_i64 {k : Nat} (hk : k < 2147483648) : (nI k).toInt64 = nL k := by
  refine Int32.toInt64_ofNat' ?_
  have : Int32.maxValue.toInt = 2147483647 := by decide
  rw [this]
  omega
theorem nL_add (a b : Nat) : nL a + nL b = nL (a + b) := (Int64.ofNat_add a b).symm
theorem nL_mul (a b : Nat) : nL a * nL b = nL (a * b) := (Int64.ofNat_mul a b).symm
theorem nL_sh {a c : Nat} (ha : a < 2 ^ 56) (hc : c < 256) : (nL a <<< ((nI 8).toInt64 &&& 63)) ||| (nI c).toInt64 = nL (a * 256 + c) := by
  rw [nI_i64 (show c < 2147483648 by omega)]
  apply Int64.toBitVec_inj.1
  rw [Int64.toBitVec_or, Int64.toBitVec_shiftLeft]
  have e2 : ((nI 8).toInt64 &&& 63 : Int64).toBitVec.smod 64 = BitVec.ofNat 64 8 := by decide
  rw [e2]
  have e3 : ∀ k, (nL k).toBitVec = BitVec.ofNat 64 k := fun _ => rfl
  rw [e3, e3, e3]
  apply BitVec.eq_of_toNat_eq
  rw [BitVec.toNat_or, BitVec.shiftLeft_eq', BitVec.toNat_shiftLeft, BitVec.toNat_ofNat, BitVec.toNat_ofNat, BitVec.toNat_ofNat, BitVec.toNat_ofNat, Nat.mod_eq_of_lt (show a < 2 ^ 64 by omega), Nat.mod_eq_of_lt (show 8 < 2 ^ 64 by omega), Nat.mod_eq_of_lt (show c < 2 ^ 64 by omega), Nat.mod_eq_of_lt (show a * 256 + c < 2 ^ 64 by omega), Nat.mod_eq_of_lt (show a <<< 8 < 2 ^ 64 by rw [Nat.shiftLeft_eq]; omega), ← Nat.shiftLeft_add_eq_or_of_lt (by omega), Nat.shiftLeft_eq]
theorem lgc {a b : Nat} (ha : a < 2 ^ 64) (hb : b < 2 ^ 64) : (lg_cmp (nL a) (nL b) = 0) = (a = b) := (propext (lg_cmp_eq _ _)).trans (nL_inj ha hb)
/-- words: the letters 1 .. 26, the last first -/
def w5 : List Nat → Nat
  | [] => 0
  | d :: l => w5 l * 32 + d
def w8 : List Nat → Nat
  | [] => 0
  | d :: l => w8 l * 256 + (96 + d)
def gl (l : List Nat) : Prop := l.length ≤ 8 ∧ ∀ d ∈ l, 1 ≤ d ∧ d ≤ 26
theorem w5_inj : ∀ (l l' : List Nat), (∀ d ∈ l, 1 ≤ d ∧ d ≤ 26) → (∀ d ∈ l', 1 ≤ d ∧ d ≤ 26) → w5 l = w5 l' → l = l' := by
  intro l
  induction l with
  | nil =>
    intro l' _ h' e
    cases l' with
    | nil => rfl
    | cons d t =>
      have := h' d (by simp)
      simp only [w5] at e
      omega
  | cons d t ih =>
    intro l' h h' e
    have h1 := h d (by simp)
    cases l' with
    | nil =>
      simp only [w5] at e
      omega
    | cons d' t' =>
      have h2 := h' d' (by simp)
      simp only [w5] at e
      have e1 : d = d' := by omega
      have e2 : w5 t = w5 t' := by omega
      rw [e1, ih t' (fun x hx => h x (by simp [hx])) (fun x hx => h' x (by simp [hx])) e2]
theorem w8_inj : ∀ (l l' : List Nat), (∀ d ∈ l, 1 ≤ d ∧ d ≤ 26) → (∀ d ∈ l', 1 ≤ d ∧ d ≤ 26) → w8 l = w8 l' → l = l' := by
  intro l
  induction l with
  | nil =>
    intro l' _ h' e
    cases l' with
    | nil => rfl
    | cons d t =>
      have := h' d (by simp)
      simp only [w8] at e
      omega
  | cons d t ih =>
    intro l' h h' e
    have h1 := h d (by simp)
    cases l' with
    | nil =>
      simp only [w8] at e
      omega
    | cons d' t' =>
      have h2 := h' d' (by simp)
      simp only [w8] at e
      have e1 : d = d' := by omega
      have e2 : w8 t = w8 t' := by omega
      rw [e1, ih t' (fun x hx => h x (by simp [hx])) (fun x hx => h' x (by simp [hx])) e2]
theorem w5_lt : ∀ l : List Nat, (∀ d ∈ l, 1 ≤ d ∧ d ≤ 26) → w5 l < 32 ^ l.length := by
  intro l
  induction l with
  | nil => intro _; decide
  | cons d t ih =>
    intro h
    have h1 := h d (by simp)
    have h2 := ih (fun x hx => h x (by simp [hx]))
    simp only [w5, List.length_cons, Nat.pow_succ]
    omega
theorem w8_lt : ∀ l : List Nat, (∀ d ∈ l, 1 ≤ d ∧ d ≤ 26) → w8 l < 256 ^ l.length := by
  intro l
  induction l with
  | nil => intro _; decide
  | cons d t ih =>
    intro h
    have h1 := h d (by simp)
    have h2 := ih (fun x hx => h x (by simp [hx]))
    simp only [w8, List.length_cons, Nat.pow_succ]
    omega
theorem w5_64 {l : List Nat} (h : gl l) : w5 l < 2 ^ 64 := by
  have h1 := w5_lt l h.2
  have h2 : (32:Nat) ^ l.length ≤ 32 ^ 8 := Nat.pow_le_pow_right (by omega) h.1
  omega
theorem w8_64 {l : List Nat} (h : gl l) : w8 l < 2 ^ 64 := by
  have h1 := w8_lt l h.2
  have h2 : (256:Nat) ^ l.length ≤ 256 ^ 8 := Nat.pow_le_pow_right (by omega) h.1
  omega
theorem lg5 {l l' : List Nat} (h : gl l) (h' : gl l') : (lg_cmp (nL (w5 l)) (nL (w5 l')) = 0) = (l = l') := by
  rw [lgc (w5_64 h) (w5_64 h')]
  exact propext ⟨w5_inj _ _ h.2 h'.2, fun e => by rw [e]⟩
theorem lg8 {l l' : List Nat} (h : gl l) (h' : gl l') : (lg_cmp (nL (w8 l)) (nL (w8 l')) = 0) = (l = l') := by
  rw [lgc (w8_64 h) (w8_64 h')]
  exact propext ⟨w8_inj _ _ h.2 h'.2, fun e => by rw [e]⟩
/-- the kept words -/
def lwT : List (List Nat) := [[19, 20, 14, 9, 15, 16], [5, 3, 1, 6], [4, 14, 9, 11], [20, 6, 9, 18, 4], [23, 15, 18], [19, 23, 15, 14, 11], [18, 5, 20, 14, 9, 18, 16], [19, 18, 21, 12, 2], [19, 20, 19, 15, 3], [18, 1, 5, 14], [18, 1, 2], [14, 7, 9, 19], [14, 5, 8, 23], [18, 1, 6], [19, 18, 1, 5, 25], [20, 8, 7, 9, 12], [13, 21, 19], [5, 7, 4, 5], [20, 19, 15, 13], [20, 19, 1, 5, 12], [20, 1], [4, 14, 1], [18, 15], [20, 15, 14]]
def lw (r : Nat) : List Nat := lwT.getD r []
theorem lw_gl {r : Nat} (hr : r < 24) : gl (lw r) := by
  have : ∀ k : Fin 24, (lw k.1).length ≤ 8 ∧ ∀ d ∈ lw k.1, 1 ≤ d ∧ d ≤ 26 := by decide +kernel
  exact this ⟨r, hr⟩
theorem lw_inj {r r' : Nat} (hr : r < 24) (hr' : r' < 24) (e : lw r = lw r') : r = r' := by
  have : ∀ k k' : Fin 24, lw k.1 = lw k'.1 → k = k' := by decide +kernel
  have := this ⟨r, hr⟩ ⟨r', hr'⟩ e
  exact congrArg Fin.val this
/-- the first from i on that p says -/
def fnd (p : Nat → Bool) : Nat → Nat → Nat
  | 0, i => i
  | m + 1, i => if p i = true then i else fnd p m (i + 1)
theorem fnd_sp (p : Nat → Bool) : ∀ m i, i ≤ fnd p m i ∧ fnd p m i ≤ i + m ∧ (fnd p m i < i + m → p (fnd p m i) = true) ∧ ∀ k, i ≤ k → k < fnd p m i → p k = false := by
  intro m
  induction m with
  | zero => intro i; exact ⟨Nat.le_refl _, Nat.le_refl _, fun h => by simp [fnd] at h, fun k h1 h2 => by simp [fnd] at h2; omega⟩
  | succ m ih =>
    intro i
    unfold fnd
    by_cases c : p i = true
    · rw [if_pos c]
      exact ⟨Nat.le_refl _, by omega, fun _ => c, fun k h1 h2 => by omega⟩
    · rw [if_neg c]
      obtain ⟨a1, a2, a3, a4⟩ := ih (i + 1)
      refine ⟨by omega, by omega, fun h => a3 (by omega), fun k h1 h2 => ?_⟩
      by_cases e : k = i
      · rw [e]; simpa using c
      · exact a4 k (by omega) h2
/-- a word's number: 0 .. 23 kept ones, 24 a name -/
def rsv (l : List Nat) : Nat := fnd (fun r => decide (lw r = l)) 24 0
theorem rsv_le (l : List Nat) : rsv l ≤ 24 := by
  have := (fnd_sp (fun r => decide (lw r = l)) 24 0).2.1
  unfold rsv; omega
theorem rsv_lt {l : List Nat} (h : rsv l < 24) : lw (rsv l) = l := by
  have := (fnd_sp (fun r => decide (lw r = l)) 24 0).2.2.1 (by unfold rsv at h; omega)
  unfold rsv
  exact of_decide_eq_true this
theorem rsv_24 {l : List Nat} (h : rsv l = 24) {r : Nat} (hr : r < 24) : lw r ≠ l := by
  have := (fnd_sp (fun r => decide (lw r = l)) 24 0).2.2.2 r (by omega) (by unfold rsv at h; omega)
  exact of_decide_eq_false this
theorem rsv_iff {l : List Nat} {r : Nat} (hr : r < 24) : (l = lw r) = (rsv l = r) := by
  refine propext ⟨fun e => ?_, fun e => ?_⟩
  · by_cases h : rsv l < 24
    · exact lw_inj h hr ((rsv_lt h).trans e)
    · exact absurd e.symm (rsv_24 (by have := rsv_le l; omega) hr)
  · rw [← e]; exact (rsv_lt (by omega)).symm
theorem c8_0 : w8 (lw 0) = 123623812527219 := by decide +kernel
theorem k8_0 {l : List Nat} (h : gl l) : (lg_cmp (nL (w8 l)) (123623812527219) = 0) = (rsv l = 0) := by
  have e := lg8 h (lw_gl (show 0 < 24 by omega))
  rw [c8_0, rsv_iff (show 0 < 24 by omega)] at e
  exact e
theorem c8_1 : w8 (lw 1) = 1717658469 := by decide +kernel
theorem k8_1 {l : List Nat} (h : gl l) : (lg_cmp (nL (w8 l)) (1717658469) = 0) = (rsv l = 1) := by
  have e := lg8 h (lw_gl (show 1 < 24 by omega))
  rw [c8_1, rsv_iff (show 1 < 24 by omega)] at e
  exact e
theorem c8_2 : w8 (lw 2) = 1802071652 := by decide +kernel
theorem k8_2 {l : List Nat} (h : gl l) : (lg_cmp (nL (w8 l)) (1802071652) = 0) = (rsv l = 2) := by
  have e := lg8 h (lw_gl (show 2 < 24 by omega))
  rw [c8_2, rsv_iff (show 2 < 24 by omega)] at e
  exact e
theorem c8_3 : w8 (lw 3) = 431416239732 := by decide +kernel
theorem k8_3 {l : List Nat} (h : gl l) : (lg_cmp (nL (w8 l)) (431416239732) = 0) = (rsv l = 3) := by
  have e := lg8 h (lw_gl (show 3 < 24 by omega))
  rw [c8_3, rsv_iff (show 3 < 24 by omega)] at e
  exact e
theorem c8_4 : w8 (lw 4) = 7499639 := by decide +kernel
theorem k8_4 {l : List Nat} (h : gl l) : (lg_cmp (nL (w8 l)) (7499639) = 0) = (rsv l = 4) := by
  have e := lg8 h (lw_gl (show 4 < 24 by omega))
  rw [c8_4, rsv_iff (show 4 < 24 by omega)] at e
  exact e
theorem c8_5 : w8 (lw 5) = 461414299507 := by decide +kernel
theorem k8_5 {l : List Nat} (h : gl l) : (lg_cmp (nL (w8 l)) (461414299507) = 0) = (rsv l = 5) := by
  have e := lg8 h (lw_gl (show 5 < 24 by omega))
  rw [c8_5, rsv_iff (show 5 < 24 by omega)] at e
  exact e
theorem c8_6 : w8 (lw 6) = 31650994541847922 := by decide +kernel
theorem k8_6 {l : List Nat} (h : gl l) : (lg_cmp (nL (w8 l)) (31650994541847922) = 0) = (rsv l = 6) := by
  have e := lg8 h (lw_gl (show 6 < 24 by omega))
  rw [c8_6, rsv_iff (show 6 < 24 by omega)] at e
  exact e
theorem c8_7 : w8 (lw 7) = 422726431347 := by decide +kernel
theorem k8_7 {l : List Nat} (h : gl l) : (lg_cmp (nL (w8 l)) (422726431347) = 0) = (rsv l = 7) := by
  have e := lg8 h (lw_gl (show 7 < 24 by omega))
  rw [c8_7, rsv_iff (show 7 < 24 by omega)] at e
  exact e
theorem c8_8 : w8 (lw 8) = 427071599731 := by decide +kernel
theorem k8_8 {l : List Nat} (h : gl l) : (lg_cmp (nL (w8 l)) (427071599731) = 0) = (rsv l = 8) := by
  have e := lg8 h (lw_gl (show 8 < 24 by omega))
  rw [c8_8, rsv_iff (show 8 < 24 by omega)] at e
  exact e
theorem c8_9 : w8 (lw 9) = 1852137842 := by decide +kernel
theorem k8_9 {l : List Nat} (h : gl l) : (lg_cmp (nL (w8 l)) (1852137842) = 0) = (rsv l = 9) := by
  have e := lg8 h (lw_gl (show 9 < 24 by omega))
  rw [c8_9, rsv_iff (show 9 < 24 by omega)] at e
  exact e
theorem c8_10 : w8 (lw 10) = 6447474 := by decide +kernel
theorem k8_10 {l : List Nat} (h : gl l) : (lg_cmp (nL (w8 l)) (6447474) = 0) = (rsv l = 10) := by
  have e := lg8 h (lw_gl (show 10 < 24 by omega))
  rw [c8_10, rsv_iff (show 10 < 24 by omega)] at e
  exact e
theorem c8_11 : w8 (lw 11) = 1936287598 := by decide +kernel
theorem k8_11 {l : List Nat} (h : gl l) : (lg_cmp (nL (w8 l)) (1936287598) = 0) = (rsv l = 11) := by
  have e := lg8 h (lw_gl (show 11 < 24 by omega))
  rw [c8_11, rsv_iff (show 11 < 24 by omega)] at e
  exact e
theorem c8_12 : w8 (lw 12) = 2003330414 := by decide +kernel
theorem k8_12 {l : List Nat} (h : gl l) : (lg_cmp (nL (w8 l)) (2003330414) = 0) = (rsv l = 12) := by
  have e := lg8 h (lw_gl (show 12 < 24 by omega))
  rw [c8_12, rsv_iff (show 12 < 24 by omega)] at e
  exact e
theorem c8_13 : w8 (lw 13) = 6709618 := by decide +kernel
theorem k8_13 {l : List Nat} (h : gl l) : (lg_cmp (nL (w8 l)) (6709618) = 0) = (rsv l = 13) := by
  have e := lg8 h (lw_gl (show 13 < 24 by omega))
  rw [c8_13, rsv_iff (show 13 < 24 by omega)] at e
  exact e
theorem c8_14 : w8 (lw 14) = 521391927923 := by decide +kernel
theorem k8_14 {l : List Nat} (h : gl l) : (lg_cmp (nL (w8 l)) (521391927923) = 0) = (rsv l = 14) := by
  have e := lg8 h (lw_gl (show 14 < 24 by omega))
  rw [c8_14, rsv_iff (show 14 < 24 by omega)] at e
  exact e
theorem c8_15 : w8 (lw 15) = 465624852596 := by decide +kernel
theorem k8_15 {l : List Nat} (h : gl l) : (lg_cmp (nL (w8 l)) (465624852596) = 0) = (rsv l = 15) := by
  have e := lg8 h (lw_gl (show 15 < 24 by omega))
  rw [c8_15, rsv_iff (show 15 < 24 by omega)] at e
  exact e
theorem c8_16 : w8 (lw 16) = 7566701 := by decide +kernel
theorem k8_16 {l : List Nat} (h : gl l) : (lg_cmp (nL (w8 l)) (7566701) = 0) = (rsv l = 16) := by
  have e := lg8 h (lw_gl (show 16 < 24 by omega))
  rw [c8_16, rsv_iff (show 16 < 24 by omega)] at e
  exact e
theorem c8_17 : w8 (lw 17) = 1701078885 := by decide +kernel
theorem k8_17 {l : List Nat} (h : gl l) : (lg_cmp (nL (w8 l)) (1701078885) = 0) = (rsv l = 17) := by
  have e := lg8 h (lw_gl (show 17 < 24 by omega))
  rw [c8_17, rsv_iff (show 17 < 24 by omega)] at e
  exact e
theorem c8_18 : w8 (lw 18) = 1836020596 := by decide +kernel
theorem k8_18 {l : List Nat} (h : gl l) : (lg_cmp (nL (w8 l)) (1836020596) = 0) = (rsv l = 18) := by
  have e := lg8 h (lw_gl (show 18 < 24 by omega))
  rw [c8_18, rsv_iff (show 18 < 24 by omega)] at e
  exact e
theorem c8_19 : w8 (lw 19) = 465557353332 := by decide +kernel
theorem k8_19 {l : List Nat} (h : gl l) : (lg_cmp (nL (w8 l)) (465557353332) = 0) = (rsv l = 19) := by
  have e := lg8 h (lw_gl (show 19 < 24 by omega))
  rw [c8_19, rsv_iff (show 19 < 24 by omega)] at e
  exact e
theorem c8_20 : w8 (lw 20) = 24948 := by decide +kernel
theorem k8_20 {l : List Nat} (h : gl l) : (lg_cmp (nL (w8 l)) (24948) = 0) = (rsv l = 20) := by
  have e := lg8 h (lw_gl (show 20 < 24 by omega))
  rw [c8_20, rsv_iff (show 20 < 24 by omega)] at e
  exact e
theorem c8_21 : w8 (lw 21) = 6385252 := by decide +kernel
theorem k8_21 {l : List Nat} (h : gl l) : (lg_cmp (nL (w8 l)) (6385252) = 0) = (rsv l = 21) := by
  have e := lg8 h (lw_gl (show 21 < 24 by omega))
  rw [c8_21, rsv_iff (show 21 < 24 by omega)] at e
  exact e
theorem c8_22 : w8 (lw 22) = 28530 := by decide +kernel
theorem k8_22 {l : List Nat} (h : gl l) : (lg_cmp (nL (w8 l)) (28530) = 0) = (rsv l = 22) := by
  have e := lg8 h (lw_gl (show 22 < 24 by omega))
  rw [c8_22, rsv_iff (show 22 < 24 by omega)] at e
  exact e
theorem c8_23 : w8 (lw 23) = 7237492 := by decide +kernel
theorem k8_23 {l : List Nat} (h : gl l) : (lg_cmp (nL (w8 l)) (7237492) = 0) = (rsv l = 23) := by
  have e := lg8 h (lw_gl (show 23 < 24 by omega))
  rw [c8_23, rsv_iff (show 23 < 24 by omega)] at e
  exact e
theorem n10 : (nI 1 = 0) = False := by rw [uI_eq0 (by omega)]; simp
theorem n00 : (nI 0 = 0) = True := by rw [uI_eq0 (by omega)]; simp
set_option maxHeartbeats 4000000 in
theorem m_isKept {l : List Nat} (h : gl l) (g : CH) : f_X12_isKept (nL (w8 l)) g = some (bI (decide (rsv l < 24))) := by
  unfold f_X12_isKept
  simp only [k8_0 h, k8_1 h, k8_2 h, k8_3 h, k8_4 h, k8_5 h, k8_6 h, k8_7 h, k8_8 h, k8_9 h, k8_10 h, k8_11 h, k8_12 h, k8_13 h, k8_14 h, k8_15 h, k8_16 h, k8_17 h, k8_18 h, k8_19 h, k8_20 h, k8_21 h, k8_22 h, k8_23 h, jn_eq]
  have hle := rsv_le l
  have hr : rsv l = 0 ∨ rsv l = 1 ∨ rsv l = 2 ∨ rsv l = 3 ∨ rsv l = 4 ∨ rsv l = 5 ∨ rsv l = 6 ∨ rsv l = 7 ∨ rsv l = 8 ∨ rsv l = 9 ∨ rsv l = 10 ∨ rsv l = 11 ∨ rsv l = 12 ∨ rsv l = 13 ∨ rsv l = 14 ∨ rsv l = 15 ∨ rsv l = 16 ∨ rsv l = 17 ∨ rsv l = 18 ∨ rsv l = 19 ∨ rsv l = 20 ∨ rsv l = 21 ∨ rsv l = 22 ∨ rsv l = 23 ∨ rsv l = 24 := by omega
  rcases hr with e | e | e | e | e | e | e | e | e | e | e | e | e | e | e | e | e | e | e | e | e | e | e | e | e <;> rw [e] <;> rfl
