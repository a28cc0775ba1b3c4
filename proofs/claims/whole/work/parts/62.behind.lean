/-! behind: what both sides look for -/
theorem ab_nI {a b : Nat} (ha : a ≤ 99) (hb : b ≤ 99) : ab (nI a - nI b) = nI (a - b + (b - a)) := by
  by_cases q : b ≤ a
  · rw [uI_sub q]
    unfold ab
    rw [if_pos (Int32.not_lt.mp (by rw [uI_lt0 (by omega)]; exact id))]
    exact congrArg nI (by omega)
  · have e1 : nI a - nI b = -(nI (b - a)) := by rw [← uI_sub (by omega), Int32.neg_sub]
    rw [e1]
    unfold ab
    have e2 : ¬ (0 : Int32) ≤ -(nI (b - a)) := by
      rw [Int32.le_iff_toInt_le, Int32.toInt_neg, uI_toInt (by omega), show (0 : Int32).toInt = 0 from by decide]
      rw [Int.bmod_eq_of_le (by omega) (by omega)]
      omega
    rw [if_neg e2, Int32.zero_sub, Int32.neg_neg]
    exact congrArg nI (by omega)
theorem farS_comm {P : Nat} {u v : Nat → Int32} (hu : ∀ i, i < P → ∃ n, n ≤ 99 ∧ u i = nI n) (hv : ∀ i, i < P → ∃ n, n ≤ 99 ∧ v i = nI n) : farS P u v = farS P v u := by
  unfold farS
  refine smI_congr fun i hi => ?_
  obtain ⟨n, hn, e⟩ := hu i hi
  obtain ⟨m, hm, e'⟩ := hv i hi
  rw [e, e', ab_nI hn hm, ab_nI hm hn]
  exact congrArg nI (by omega)
/-- the shown mix -/
def sw (t : Tn) (p : Int32) (a b : Nat) (s : Int32) (i : Nat) : Int32 := pri t p (mixv t a b s i)
theorem sw_nI {t : Tn} (hV : VT t) {p : Int32} (hp : inR (-1) (nI 3) p = true) {a b k i : Nat} (ha : a < tF t) (hb : b < tF t) (hk : k ≤ 10) (hi : i < tP t) : ∃ n, n ≤ 99 ∧ sw t p a b (nI k) i = nI n := by
  obtain ⟨v1, v2, v3, v4, v5, v6, v7, v8, v9, -⟩ := hV
  obtain ⟨x, hx, ex⟩ := v8 a ha i hi
  obtain ⟨y, hy, ey⟩ := v8 b hb i hi
  have em : mixv t a b (nI k) i = nI ((x * k + y * (10 - k)) / 10) := by
    unfold mixv
    have l1 : x * k ≤ 99 * 10 := Nat.mul_le_mul hx hk
    have l2 : y * (10 - k) ≤ 99 * 10 := Nat.mul_le_mul hy (by omega)
    rw [ex, ey, uI_sub (by omega), uI_mul, uI_mul, uI_add, uI_div (by omega) (by omega)]
  have hl : (x * k + y * (10 - k)) / 10 ≤ 99 := by
    have l1 : x * k ≤ 99 * k := Nat.mul_le_mul hx (Nat.le_refl _)
    have l2 : y * (10 - k) ≤ 99 * (10 - k) := Nat.mul_le_mul hy (Nat.le_refl _)
    omega
  unfold sw
  rw [em]
  generalize (x * k + y * (10 - k)) / 10 = z at hl
  unfold pri
  by_cases c : p < 0
  · rw [if_pos c]; exact ⟨z, hl, rfl⟩
  rw [if_neg c]
  obtain ⟨q, hq, rfl⟩ := uI_of c
  have hq4 : q < 4 := by
    unfold inR at hp
    have hp := (of_decide_eq_true hp).2
    rw [uI_lt (by omega) hq] at hp
    omega
  rw [uI_toNat hq]
  obtain ⟨w, hw, ew⟩ := v9 q hq4
  rw [ew, uI_add, uI_rem (by omega) (by omega), uI_sub (Nat.mod_le _ _)]
  exact ⟨z - z % (w + 1), by omega, rfl⟩
/-- a paper's question: hander, other, share, printer -/
abbrev Qn : Type := Nat × Nat × Nat × Int32
def VQ (t : Tn) (Q : Qn) : Prop := Q.1 < tF t ∧ Q.2.1 < tF t ∧ Q.2.2.1 ≤ 10 ∧ inR (-1) (nI 3) Q.2.2.2 = true
def qU (t : Tn) (Q : Qn) : Nat → Int32 := sw t Q.2.2.2 Q.1 Q.2.1 (nI Q.2.2.1)
def qI (t : Tn) (Q : Qn) (b q : Nat) : Int32 := farS (tP t) (qU t Q) (sw t Q.2.2.2 Q.1 b (nI q))
def qD (t : Tn) (Q : Qn) (b q : Nat) : Nat := (qI t Q b q).toNatClampNeg
theorem qD_nI {t : Tn} (hV : VT t) {Q : Qn} (hQ : VQ t Q) {b q : Nat} (hb : b < tF t) (hq : q ≤ 10) : qI t Q b q = nI (qD t Q b q) ∧ qD t Q b q ≤ 792 := by
  have v2 := hV.2.1
  obtain ⟨q1, q2, q3, q4⟩ := hQ
  obtain ⟨n, hn, e⟩ := farS_nI v2 (u := qU t Q) (v := sw t Q.2.2.2 Q.1 b (nI q)) (fun i hi => sw_nI hV q4 q1 q2 q3 hi) (fun i hi => sw_nI hV q4 q1 hb hq hi)
  unfold qD qI
  rw [e, uI_toNat (by omega)]
  exact ⟨rfl, by omega⟩
theorem qI_sym {t : Tn} (hV : VT t) {Q : Qn} (hQ : VQ t Q) {b q : Nat} (hb : b < tF t) (hq : q ≤ 10) : farS (tP t) (sw t Q.2.2.2 Q.1 b (nI q)) (qU t Q) = nI (qD t Q b q) := by
  obtain ⟨q1, q2, q3, q4⟩ := hQ
  rw [farS_comm (u := sw t Q.2.2.2 Q.1 b (nI q)) (v := qU t Q) (fun i hi => sw_nI hV q4 q1 hb hq hi) (fun i hi => sw_nI hV q4 q1 q2 q3 hi)]
  exact (qD_nI hV ⟨q1, q2, q3, q4⟩ hb hq).1
/-- least far, and its share, over the first k shares -/
def le (t : Tn) (Q : Qn) (b : Nat) : Nat → Nat × Nat
  | 0 => (100000, 0)
  | k + 1 => if qD t Q b (k + 1) < (le t Q b k).1 then (qD t Q b (k + 1), k + 1) else le t Q b k
theorem le_le {t : Tn} (hV : VT t) {Q : Qn} (hQ : VQ t Q) {b : Nat} (hb : b < tF t) : ∀ k, k ≤ 9 → (le t Q b k).1 ≤ 100000 ∧ (le t Q b k).2 ≤ 9 ∧ (0 < k → (le t Q b k).1 ≤ 792) := by
  intro k
  induction k with
  | zero => intro _; exact ⟨Nat.le_refl _, by show 0 ≤ 9; omega, fun h => by omega⟩
  | succ k ih =>
    intro hk
    obtain ⟨i1, i2, i3⟩ := ih (by omega)
    have q := (qD_nI hV hQ hb (show k + 1 ≤ 10 by omega)).2
    unfold le
    by_cases c : qD t Q b (k + 1) < (le t Q b k).1
    · rw [if_pos c]; exact ⟨by show qD t Q b (k + 1) ≤ _; omega, by show k + 1 ≤ 9; omega, fun _ => q⟩
    · rw [if_neg c]; exact ⟨i1, i2, fun _ => by omega⟩
def lf (t : Tn) (Q : Qn) (b : Nat) : Nat := (le t Q b 9).1
def ls (t : Tn) (Q : Qn) (b : Nat) : Nat := (le t Q b 9).2
/-- who is behind, among the first n faces -/
def bs (t : Tn) (Q : Qn) : Nat → Option Nat
  | 0 => none
  | n + 1 => if n = Q.1 then bs t Q n else match bs t Q n with | none => some n | some c => if lf t Q n < lf t Q c then some n else some c
theorem bs_lt {t : Tn} {Q : Qn} : ∀ n c, bs t Q n = some c → c < n ∧ c ≠ Q.1 := by
  intro n
  induction n with
  | zero => intro c h; cases h
  | succ n ih =>
    intro c h
    unfold bs at h
    by_cases e : n = Q.1
    · rw [if_pos e] at h
      have := ih c h
      exact ⟨by omega, this.2⟩
    · rw [if_neg e] at h
      cases hb : bs t Q n with
      | none =>
        rw [hb] at h
        have h : some n = some c := h
        cases h
        exact ⟨by omega, e⟩
      | some d =>
        rw [hb] at h
        have h : (if lf t Q n < lf t Q d then some n else some d) = some c := h
        by_cases z : lf t Q n < lf t Q d
        · rw [if_pos z] at h; cases h; exact ⟨by omega, e⟩
        · rw [if_neg z] at h; have e2 : d = c := by injection h
          have := ih d hb; rw [e2] at this; exact ⟨by omega, this.2⟩
theorem bs_none {t : Tn} {Q : Qn} : ∀ n, bs t Q n = none → n ≤ 1 ∨ n = 0 := by
  intro n
  induction n with
  | zero => intro _; omega
  | succ n ih =>
    intro h
    unfold bs at h
    by_cases e : n = Q.1
    · rw [if_pos e] at h
      refine Or.inl ?_
      cases n with
      | zero => omega
      | succ m =>
        exfalso
        unfold bs at h
        rw [if_neg (by omega)] at h
        cases hm : bs t Q m with
        | none => rw [hm] at h; cases h
        | some d => rw [hm] at h; have h : (if lf t Q m < lf t Q d then some m else some d) = none := h; split at h <;> cases h
    · rw [if_neg e] at h
      exfalso
      cases hm : bs t Q n with
      | none => rw [hm] at h; cases h
      | some d => rw [hm] at h; have h : (if lf t Q n < lf t Q d then some n else some d) = none := h; split at h <;> cases h
theorem bs_2 {t : Tn} {Q : Qn} (hQ : Q.1 < tF t) : (bs t Q (tF t) = none) = (tF t < 2) := by
  refine propext ⟨fun h => ?_, fun h => ?_⟩
  · have := bs_none _ h
    omega
  · have e : tF t = 1 := by omega
    rw [e]
    show (if 0 = Q.1 then bs t Q 0 else _) = none
    rw [if_pos (by omega)]
    rfl
def fo : Option Nat → Int32
  | none => -1
  | some c => nI c
/-- is it sure, from face b on -/
def su (t : Tn) (Q : Qn) (c : Nat) (m : Nat) : Nat → Nat → Bool
  | 0, _ => decide (m < qD t Q Q.1 10)
  | n + 1, b => if b = Q.1 then su t Q c m n (b + 1) else if b = c then su t Q c m n (b + 1) else if m < lf t Q b then su t Q c m n (b + 1) else false
