/-! what a call leaves as it was -/
def Fr (S : Nat → Nat → Prop) (h h' : CH) : Prop := (∀ a k, ¬ S a k → h'.1 a k = h.1 a k) ∧ h'.2 = h.2
theorem Fr.rf {S : Nat → Nat → Prop} {h : CH} : Fr S h h := ⟨fun _ _ _ => rfl, rfl⟩
theorem Fr.tr {S : Nat → Nat → Prop} {h h1 h2 : CH} (a : Fr S h h1) (b : Fr S h1 h2) : Fr S h h2 := ⟨fun x k hx => (b.1 x k hx).trans (a.1 x k hx), b.2.trans a.2⟩
theorem Fr.mono {S S' : Nat → Nat → Prop} {h h1 : CH} (a : Fr S h h1) (hs : ∀ x k, S x k → S' x k) : Fr S' h h1 := ⟨fun x k hx => a.1 x k (fun z => hx (hs x k z)), a.2⟩
theorem Fr.sI {S : Nat → Nat → Prop} {h : CH} {a k : Nat} {v : Int32} (hS : S a k) : Fr S h (sI h a k v) := by
  refine ⟨fun x j hx => ?_, rfl⟩
  show (if x = a ∧ j = k then v else h.1 x j) = h.1 x j
  by_cases e : x = a ∧ j = k
  · exact absurd (by rw [e.1, e.2]; exact hS) hx
  · rw [if_neg e]
/-- the class's passing numbers: the gate's year, light and rows, the rules' values and stack, the dark room's picture, the plain bars', the search's and the rings' -/
def TC (a _ : Nat) : Prop := a = 61 ∨ a = 62 ∨ (80 ≤ a ∧ a ≤ 129)
/-- the reference's -/
def TM (a k : Nat) : Prop := a = 172 ∨ a = 176 ∨ a = 177 ∨ a = 184 ∨ (a = 151 ∧ 48 ≤ k ∧ k ≤ 51) ∨ (a = 151 ∧ 62 ≤ k ∧ k ≤ 64)
def SR (a _ : Nat) : Prop := a = 61 ∨ a = 62
def SA (a k : Nat) : Prop := a = 172 ∨ (a = 151 ∧ 48 ≤ k ∧ k ≤ 51)
theorem CT.fr {S : Nat → Nat → Prop} {b : Nat} {t : Tn} {h h' : CH} (hC : CT b t h) (hF : Fr S h h') (hS : ∀ a k, b ≤ a → a ≤ b + 23 → ¬ S a k) (hV : VT t) : CT b t h' := by
  obtain ⟨c0, c1, c2, c3, c4, c5, c6, c7, c8, c9⟩ := hC
  have hf16 : tF t ≤ 16 := hV.2.2.1
  have g : ∀ a k, b ≤ a → a ≤ b + 23 → h'.1 a k = h.1 a k := fun a k h1 h2 => hF.1 a k (hS a k h1 h2)
  refine ⟨?_, ?_, ?_, ?_, ?_, ?_, ?_, ?_, ?_, ?_⟩
  · rw [g _ _ (by omega) (by omega)]; exact c0
  · rw [g _ _ (by omega) (by omega)]; exact c1
  · rw [g _ _ (by omega) (by omega)]; exact c2
  · rw [g _ _ (by omega) (by omega)]; exact c3
  · intro f hf; rw [g _ _ (by omega) (by omega)]; exact c4 f hf
  · intro f hf; rw [g _ _ (by omega) (by omega)]; exact c5 f hf
  · intro f hf i hi; rw [g _ _ (by omega) (by omega)]; exact c6 f hf i hi
  · intro f hf; rw [g _ _ (by omega) (by omega)]; exact c7 f hf
  · intro f hf; rw [g _ _ (by omega) (by omega)]; exact c8 f hf
  · intro f hf; rw [g _ _ (by omega) (by omega)]; exact c9 f hf
theorem CT.tc {t : Tn} {h h' : CH} (hC : CT 7 t h) (hF : Fr TC h h') (hV : VT t) : CT 7 t h' := hC.fr hF (fun a k h1 h2 h3 => by unfold TC at h3; omega) hV
/-- the reference's town, in its bank b -/
def MT (b : Nat) (t : Tn) (h : CH) : Prop := b ≤ 1 ∧ h.1 151 26 = nI b ∧ h.1 154 b = nI (tP t) ∧ h.1 157 b = tnr t ∧ h.1 155 b = nI (tF t) ∧ h.1 156 b = nI (tK t) ∧ (∀ f, f < tF t → h.1 158 (16 * b + f) = tkd t f) ∧ (∀ f, f < tF t → h.1 159 (16 * b + f) = tdr t f) ∧ (∀ f, f < tF t → ∀ i, i < tP t → h.1 160 (8 * (16 * b + f) + i) = ttl t f i) ∧ (∀ f, f < tF t → h.1 161 (16 * b + f) = tfr t f) ∧ (∀ p, p < 4 → h.1 162 (4 * b + p) = tbl t p) ∧ (∀ p, p < 4 → h.1 163 (4 * b + p) = tcs t p)
theorem MT.fr {S : Nat → Nat → Prop} {b : Nat} {t : Tn} {h h' : CH} (hC : MT b t h) (hF : Fr S h h') (hS : ∀ a k, 154 ≤ a → a ≤ 163 → ¬ S a k) (hS2 : ¬ S 151 26) : MT b t h' := by
  obtain ⟨c0, c1, c2, c3, c4, c5, c6, c7, c8, c9, c10, c11⟩ := hC
  have g : ∀ a k, 154 ≤ a → a ≤ 163 → h'.1 a k = h.1 a k := fun a k h1 h2 => hF.1 a k (hS a k h1 h2)
  refine ⟨c0, ?_, ?_, ?_, ?_, ?_, ?_, ?_, ?_, ?_, ?_, ?_⟩
  · rw [hF.1 _ _ hS2]; exact c1
  · rw [g _ _ (by omega) (by omega)]; exact c2
  · rw [g _ _ (by omega) (by omega)]; exact c3
  · rw [g _ _ (by omega) (by omega)]; exact c4
  · rw [g _ _ (by omega) (by omega)]; exact c5
  · intro f hf; rw [g _ _ (by omega) (by omega)]; exact c6 f hf
  · intro f hf; rw [g _ _ (by omega) (by omega)]; exact c7 f hf
  · intro f hf i hi; rw [g _ _ (by omega) (by omega)]; exact c8 f hf i hi
  · intro f hf; rw [g _ _ (by omega) (by omega)]; exact c9 f hf
  · intro f hf; rw [g _ _ (by omega) (by omega)]; exact c10 f hf
  · intro f hf; rw [g _ _ (by omega) (by omega)]; exact c11 f hf
theorem MT.tm {b : Nat} {t : Tn} {h h' : CH} (hC : MT b t h) (hF : Fr TM h h') : MT b t h' := hC.fr hF (fun a k h1 h2 h3 => by unfold TM at h3; omega) (by unfold TM; omega)
/-! order of ints -/
theorem i32_le {x y : Int32} : (¬ x < y) ↔ y ≤ x := Int32.not_lt
theorem clamp_eq (v : Int32) {σ : Type} (f : Int32 → σ) : (if v < 0 then f (nI 0) else if nI 99 < v then f (nI 99) else f v) = f (mx (nI 0) (mn (nI 99) v)) := by
  unfold mx mn
  have e0 : (0 : Int32) = nI 0 := rfl
  have z9 : (nI 99).toInt = 99 := uI_toInt (by decide)
  have z0 : (nI 0).toInt = 0 := uI_toInt (by decide)
  rw [e0]
  simp only [Int32.lt_iff_toInt_lt, z9, z0]
  by_cases h1 : v.toInt < 0
  · rw [if_pos h1, if_pos (by omega : v.toInt < 99), if_neg (by omega)]
  · rw [if_neg h1]
    by_cases h2 : 99 < v.toInt
    · rw [if_pos h2, if_neg (by omega : ¬ v.toInt < 99), z9, if_pos (by omega)]
    · rw [if_neg h2]
      by_cases h3 : v.toInt < 99
      · rw [if_pos h3]
        by_cases h4 : 0 < v.toInt
        · rw [if_pos h4]
        · rw [if_neg h4]
          have : v = nI 0 := Int32.toInt_inj.mp (by rw [z0]; omega)
          rw [this]
      · have : v = nI 99 := Int32.toInt_inj.mp (by rw [z9]; omega)
        rw [if_neg h3, z9, if_pos (by omega), this]
theorem lit_eq (v : Int32) {σ : Type} (f : Int32 → σ) : (if nI 99 < v then f (nI 99) else f v) = f (mn (nI 99) v) := by
  unfold mn
  by_cases h1 : nI 99 < v
  · rw [if_pos h1, if_neg]
    rw [Int32.lt_iff_toInt_lt] at h1 ⊢
    omega
  · rw [if_neg h1]
    by_cases h2 : v < nI 99
    · rw [if_pos h2]
    · rw [if_neg h2]
      congr 1
      apply Int32.toInt_inj.mp
      rw [Int32.lt_iff_toInt_lt] at h1 h2
      omega
theorem abs_eq (v : Int32) {σ : Type} (f : Int32 → σ) : (if v < 0 then f (-v) else f v) = f (ab v) := by
  unfold ab
  by_cases h1 : v < 0
  · rw [if_pos h1, if_neg (Int32.not_le.mpr h1), Int32.zero_sub]
  · rw [if_neg h1, if_pos (Int32.not_lt.mp h1)]
theorem mz0 {t : Tn} (hV : VT t) {f i : Nat} (hf : f < tF t) (hi : i < tP t) : mz t f i (nI 0) = ttl t f i := by
  obtain ⟨v1, v2, v3, v4, v5, v6, v7, v8, -⟩ := hV
  obtain ⟨d, hd, ed⟩ := v7 f hf
  obtain ⟨m, hm, em⟩ := v8 f hf i hi
  unfold mz
  rw [ed, em]
  have z : nI d * nI 0 / nI 10 = nI 0 := by rw [uI_mul, uI_div (by omega) (by omega)]; simp
  have zn : -(nI 0) = nI 0 := by decide
  have c : mx (nI 0) (mn (nI 99) (nI m)) = nI m := by
    have e1 : (nI m < nI 99) = (m < 99) := uI_lt (by omega) (by omega)
    have e2 : (nI 0 < nI m) = (0 < m) := uI_lt (by omega) (by omega)
    by_cases h1 : m < 99
    · unfold mn mx
      simp only [e1, h1, if_true, e2]
      by_cases h2 : 0 < m
      · simp [h2]
      · rw [if_neg h2, show m = 0 by omega]
    · have h9 : m = 99 := by omega
      subst h9
      decide
  rw [z, zn, uI_add, Nat.add_zero, c]
  simp
