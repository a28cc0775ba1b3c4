/-! looks: what both sides count -/
def prN (p : Pp) (i : Nat) : Nat := pq p i / 10 % 10
theorem prN_q {t : Tn} (hV : VT t) {p : Pp} (hP : VP (tF t) p) {i : Nat} (hi : i < pN p) : (qP p i).2.2.2 = nI (prN p i) ∧ prN p i < 4 := by
  obtain ⟨a1, a2, a3, a4, a5⟩ := pfq hV hP hi
  unfold qP prN
  rw [a5, uI_div (by omega) (by omega), uI_rem (by omega) (by omega)]
  exact ⟨rfl, a4⟩
/-- a paper's signs -/
def pS (t : Tn) (R : Ru) (p : Pp) (i : Nat) : Int32 := sgS t R (qP p i).1 (qP p i).2.1 (nI (qP p i).2.2.1) (qP p i).2.2.2
def mxP (p : Pp) (i : Nat) : Bool := decide (¬ (qP p i).1 = (qP p i).2.1) && decide (0 < (qP p i).2.2.1 ∧ (qP p i).2.2.1 < 10)
def shB (t : Tn) (R : Ru) (p : Pp) (k : Int32) (i : Nat) : Bool := gC p k i && (mxP p i && decide (¬ pS t R p i = 0))
def shN (t : Tn) (R : Ru) (p : Pp) (k : Int32) (r : Nat) : Nat → Nat
  | 0 => 0
  | n + 1 => shN t R p k r n + bN (decide (prN p n = r) && shB t R p k n)
def shM (t : Tn) (R : Ru) (p : Pp) (k : Int32) (m : Nat) : Nat → Nat
  | 0 => 0
  | n + 1 => shM t R p k m n + bN (m.testBit (prN p n) && shB t R p k n)
theorem shN_le {t : Tn} {R : Ru} {p : Pp} {k : Int32} {r : Nat} : ∀ n, shN t R p k r n ≤ n := by
  intro n
  induction n with
  | zero => exact Nat.le_refl _
  | succ n ih => unfold shN bN; split <;> omega
theorem shM_le {t : Tn} {R : Ru} {p : Pp} {k : Int32} {m : Nat} : ∀ n, shM t R p k m n ≤ n := by
  intro n
  induction n with
  | zero => exact Nat.le_refl _
  | succ n ih => unfold shM bN; split <;> omega
def b4 (m : Nat) (g : Nat → Nat) : Nat → Nat
  | 0 => 0
  | r + 1 => b4 m g r + (if m.testBit r = true then g r else 0)
theorem shM_eq {t : Tn} (hV : VT t) {R : Ru} {p : Pp} (hP : VP (tF t) p) {k : Int32} {m : Nat} : ∀ n, n ≤ pN p → shM t R p k m n = b4 m (fun r => shN t R p k r n) 4 := by
  intro n
  induction n with
  | zero =>
    intro _
    unfold shM
    simp [b4, shN]
  | succ n ih =>
    intro hn
    have hp := (prN_q hV hP (show n < pN p by omega)).2
    unfold shM
    rw [ih (by omega)]
    simp only [b4, shN]
    generalize prN p n = q at hp
    have : q = 0 ∨ q = 1 ∨ q = 2 ∨ q = 3 := by omega
    rcases this with e | e | e | e <;> subst e <;> cases m.testBit 0 <;> cases m.testBit 1 <;> cases m.testBit 2 <;> cases m.testBit 3 <;> simp [bN] <;> omega
theorem shM_0 {t : Tn} {R : Ru} {p : Pp} {k : Int32} : ∀ n, shM t R p k 0 n = 0 := by
  intro n
  induction n with
  | zero => rfl
  | succ n ih => unfold shM; rw [ih]; simp [bN]
def csN (t : Tn) (r : Nat) : Nat := (tcs t r).toNatClampNeg
theorem csN_ok {t : Tn} (hV : VT t) {r : Nat} (hr : r < 4) : tcs t r = nI (csN t r) ∧ csN t r ≤ 99 := by
  obtain ⟨n, hn, e⟩ := hV.2.2.2.2.2.2.2.2.2.1 r hr
  unfold csN
  rw [e, uI_toNat (by omega)]
  exact ⟨rfl, hn⟩
theorem b4_le {m c : Nat} {g : Nat → Nat} : ∀ n, (∀ r, r < n → g r ≤ c) → b4 m g n ≤ n * c := by
  intro n
  induction n with
  | zero => intro _; unfold b4; omega
  | succ n ih =>
    intro h
    have := ih (fun r hr => h r (by omega))
    have h2 := h n (by omega)
    unfold b4
    rw [Nat.succ_mul]
    split <;> omega
def coM (t : Tn) (m : Nat) : Nat := b4 m (csN t) 4
theorem coM_le {t : Tn} (hV : VT t) (m : Nat) : coM t m ≤ 396 := b4_le (c := 99) 4 (fun r hr => (csN_ok hV hr).2)
/-- the best set among the first m -/
def lk (t : Tn) (R : Ru) (p : Pp) (k : Int32) (B : Nat) : Nat → Nat × Nat
  | 0 => (0, 0)
  | m + 1 => if (lk t R p k B m).2 < shM t R p k m (pN p) then (if B < coM t m then lk t R p k B m else (m, shM t R p k m (pN p))) else lk t R p k B m
theorem lk_le {t : Tn} {R : Ru} {p : Pp} {k : Int32} {B : Nat} : ∀ m, (lk t R p k B m).1 ≤ m ∧ (lk t R p k B m).2 ≤ pN p := by
  intro m
  induction m with
  | zero => exact ⟨Nat.le_refl _, Nat.zero_le _⟩
  | succ m ih =>
    unfold lk
    have := shM_le (t := t) (R := R) (p := p) (k := k) (m := m) (pN p)
    split
    · split
      · exact ⟨by omega, ih.2⟩
      · exact ⟨by show m ≤ m + 1; omega, this⟩
    · exact ⟨by omega, ih.2⟩
def loA (t : Tn) (R : Ru) (p : Pp) (x w k : Int32) : Int32 := if inR (nI 0) (nI 999) x = true then (if inR (nI 0) (nI 1) w = true then (if w = nI 0 then nI (lk t R p k x.toNatClampNeg 16).1 else nI (lk t R p k x.toNatClampNeg 16).2) else -1) else -1
