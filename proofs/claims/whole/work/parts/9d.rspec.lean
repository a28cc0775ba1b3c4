/-! rules: what a text of them says -/
abbrev Cd : Type := List (Nat × Nat)
abbrev Gr : Type := Nat × Nat × Cd
def lpS (g : Nat → Nat → Ex Gr) (op : Nat → Option Nat) (T : Nat → Tk) : Nat → Gr → Ex Gr
  | 0, r => .ok r
  | k + 1, r => match op (kC (T r.1)) with
    | none => .ok r
    | some a => bd (g (r.1 + 1) r.2.1) fun q => lpS g op T k (q.1, q.2.1, (a, 0) :: (q.2.2 ++ r.2.2))
def opE (t : Nat) : Option Nat := if t = 22 then some 10 else none
def opB (t : Nat) : Option Nat := if t = 21 then some 9 else none
def opS (t : Nat) : Option Nat := if t = 43 then some 4 else if t = 45 then some 5 else none
def opT (t : Nat) : Option Nat := if t = 42 then some 3 else none
def rlH (t : Nat) : Option Nat := if t = 60 then some 6 else if t = 61 then some 8 else if t = 62 then some 7 else none
def vlH (bar : Bool) (t : Nat) : Option Nat := if bar = true then (if t = 2 then some 1 else if t = 13 then some 0 else if t = 14 then some 2 else if t = 15 then some 3 else none) else (if t = 16 then some 0 else if t = 17 then some 1 else if t = 18 then some 2 else if t = 19 then some 3 else none)
/-- an expression's parts: 0 e, 1 both, 2 one, 3 relation, 4 sum, 5 term, 6 unit, 7 ( e ) -/
def gS (T : Nat → Tk) (bar : Bool) (P : Nat) : Nat → Nat → Nat → Nat → Nat → Ex Gr
  | 0, _, _, _, _ => .error (0, 0)
  | n + 1, k, w, i, u =>
    if k = 0 then bd (gS T bar P n 1 w i u) fun r => lpS (gS T bar P n 1 w) opE T 40 r
    else if k = 1 then bd (gS T bar P n 2 w i u) fun r => lpS (gS T bar P n 2 w) opB T 40 r
    else if k = 2 then (if kC (T i) = 23 then (if 6 < w then .error (flK T i 2, kS (T i)) else bd (gS T bar P n 2 (w + 1) (i + 1) u) fun r => .ok (r.1, r.2.1, (2, 0) :: r.2.2)) else gS T bar P n 3 w i u)
    else if k = 3 then bd (gS T bar P n 4 w i u) fun r => match rlH (kC (T r.1)) with
      | none => .ok r
      | some a => bd (gS T bar P n 4 w (r.1 + 1) r.2.1) fun q => .ok (q.1, q.2.1, (a, 0) :: (q.2.2 ++ r.2.2))
    else if k = 4 then bd (gS T bar P n 5 w i u) fun r => lpS (gS T bar P n 5 w) opS T 40 r
    else if k = 5 then bd (gS T bar P n 6 w i u) fun r => lpS (gS T bar P n 6 w) opT T 40 r
    else if k = 6 then (if 40 ≤ u then .error (flK T i 2, kS (T i)) else if kC (T i) = 20 then (if bar = true then .error (flK T i 2, kS (T i)) else bd (sNm T (i + 1) 0 (P - 1)) fun v => .ok (i + 2, u + 1, [(1, 4 + v)])) else if kC (T i) = 25 then .ok (i + 1, u + 1, [(0, kV (T i))]) else if kC (T i) = 40 then gS T bar P n 7 w i (u + 1) else match vlH bar (kC (T i)) with
      | none => .error (flK T i 2, kS (T i))
      | some v => .ok (i + 1, u + 1, [(1, v)]))
    else (if 6 < w then .error (flK T i 2, kS (T i)) else bd (gS T bar P n 0 (w + 1) (i + 1) u) fun r => bd (sTk T r.1 41) fun j => .ok (j, r.2.1, r.2.2))
/-- what a part that stands has used -/
def gB (w i u : Nat) (r : Gr) : Prop := i < r.1 ∧ u < r.2.1 ∧ r.2.1 ≤ 40 ∧ r.2.2.length + 1 ≤ (9 - w) * (r.2.1 - u)
theorem gB_join {w i u a : Nat} {r q : Gr} (h1 : gB w i u r) (h2 : gB w (r.1 + 1) r.2.1 q) : gB w i u (q.1, q.2.1, (a, 0) :: (q.2.2 ++ r.2.2)) := by
  obtain ⟨a1, a2, a3, a4⟩ := h1
  obtain ⟨b1, b2, b3, b4⟩ := h2
  refine ⟨by show i < q.1; omega, by show u < q.2.1; omega, b3, ?_⟩
  show ((a, 0) :: (q.2.2 ++ r.2.2)).length + 1 ≤ (9 - w) * (q.2.1 - u)
  rw [List.length_cons, List.length_append]
  have : q.2.1 - u = (q.2.1 - r.2.1) + (r.2.1 - u) := by omega
  rw [this, Nat.mul_add]
  omega
theorem lpS_B {g : Nat → Nat → Ex Gr} {op : Nat → Option Nat} {T : Nat → Tk} {w : Nat} (hg : ∀ i u q, g i u = .ok q → gB w i u q) : ∀ k i u r q, gB w i u r → lpS g op T k r = .ok q → gB w i u q := by
  intro k
  induction k with
  | zero => intro i u r q h1 h2; cases h2; exact h1
  | succ k ih =>
    intro i u r q h1 h2
    unfold lpS at h2
    split at h2
    · cases h2; exact h1
    · obtain ⟨x, x1, x2⟩ := bd_inv h2
      exact ih i u _ q (gB_join h1 (hg _ _ _ x1)) x2
/-- behind a loop stands none of its signs -/
theorem lpS_X {g : Nat → Nat → Ex Gr} {op : Nat → Option Nat} {T : Nat → Tk} {w : Nat} (hg : ∀ i u q, g i u = .ok q → gB w i u q) : ∀ k r q, 41 ≤ k + r.2.1 → lpS g op T k r = .ok q → r.2.1 ≤ 40 → op (kC (T q.1)) = none := by
  intro k
  induction k with
  | zero => intro r q h1 h2 h3; omega
  | succ k ih =>
    intro r q h1 h2 h3
    unfold lpS at h2
    split at h2
    · rename_i e; cases h2; exact e
    · obtain ⟨x, x1, x2⟩ := bd_inv h2
      have gx := hg _ _ _ x1
      exact ih _ q (by show 41 ≤ k + x.2.1; have := gx.2.1; omega) x2 gx.2.2.1
theorem gS_B {T : Nat → Tk} {bar : Bool} {P : Nat} : ∀ n k w i u r, w ≤ 7 → gS T bar P n k w i u = .ok r → gB w i u r := by
  intro n
  induction n with
  | zero => intro k w i u r _ h; cases h
  | succ n ih =>
    intro k w i u r hw h
    unfold gS at h
    by_cases k0 : k = 0
    · rw [if_pos k0] at h
      obtain ⟨x, x1, x2⟩ := bd_inv h
      exact lpS_B (fun i u q => ih 1 w i u q hw) 40 i u x r (ih 1 w i u x hw x1) x2
    rw [if_neg k0] at h
    by_cases k1 : k = 1
    · rw [if_pos k1] at h
      obtain ⟨x, x1, x2⟩ := bd_inv h
      exact lpS_B (fun i u q => ih 2 w i u q hw) 40 i u x r (ih 2 w i u x hw x1) x2
    rw [if_neg k1] at h
    by_cases k2 : k = 2
    · rw [if_pos k2] at h
      split at h
      · split at h
        · cases h
        · obtain ⟨x, x1, x2⟩ := bd_inv h
          obtain ⟨b1, b2, b3, b4⟩ := ih 2 (w + 1) (i + 1) u x (by omega) x1
          cases x2
          refine ⟨by show i < x.1; omega, b2, b3, ?_⟩
          show ((2, 0) :: x.2.2).length + 1 ≤ (9 - w) * (x.2.1 - u)
          rw [List.length_cons, show 9 - w = (9 - (w + 1)) + 1 by omega, Nat.add_mul]
          omega
      · exact ih 3 w i u r hw h
    rw [if_neg k2] at h
    by_cases k3 : k = 3
    · rw [if_pos k3] at h
      obtain ⟨x, x1, x2⟩ := bd_inv h
      have gx := ih 4 w i u x hw x1
      split at x2
      · cases x2; exact gx
      · obtain ⟨y, y1, y2⟩ := bd_inv x2
        cases y2
        exact gB_join gx (ih 4 w _ _ y hw y1)
    rw [if_neg k3] at h
    by_cases k4 : k = 4
    · rw [if_pos k4] at h
      obtain ⟨x, x1, x2⟩ := bd_inv h
      exact lpS_B (fun i u q => ih 5 w i u q hw) 40 i u x r (ih 5 w i u x hw x1) x2
    rw [if_neg k4] at h
    by_cases k5 : k = 5
    · rw [if_pos k5] at h
      obtain ⟨x, x1, x2⟩ := bd_inv h
      exact lpS_B (fun i u q => ih 6 w i u q hw) 40 i u x r (ih 6 w i u x hw x1) x2
    rw [if_neg k5] at h
    have one : ∀ j v, i < j → u < 40 → gB w i u (j, u + 1, [v]) := by
      intro j v hj hu
      refine ⟨hj, by show u < u + 1; omega, by show u + 1 ≤ 40; omega, ?_⟩
      show 1 + 1 ≤ (9 - w) * (u + 1 - u)
      rw [show u + 1 - u = 1 by omega, Nat.mul_one]
      omega
    by_cases k6 : k = 6
    · rw [if_pos k6] at h
      split at h
      · cases h
      · split at h
        · split at h
          · cases h
          · obtain ⟨x, x1, x2⟩ := bd_inv h
            cases x2
            exact one _ _ (by omega) (by omega)
        · split at h
          · cases h; exact one _ _ (by omega) (by omega)
          · split at h
            · obtain ⟨b1, b2, b3, b4⟩ := ih 7 w i (u + 1) r hw h
              refine ⟨b1, by omega, b3, ?_⟩
              have : r.2.1 - u = (r.2.1 - (u + 1)) + 1 := by omega
              rw [this, Nat.mul_add]
              omega
            · split at h
              · cases h
              · cases h; exact one _ _ (by omega) (by omega)
    rw [if_neg k6] at h
    split at h
    · cases h
    · obtain ⟨x, x1, x2⟩ := bd_inv h
      obtain ⟨y, y1, y2⟩ := bd_inv x2
      obtain ⟨ey, -⟩ := sTk_ok y1
      obtain ⟨b1, b2, b3, b4⟩ := ih 0 (w + 1) (i + 1) u x (by omega) x1
      cases y2
      refine ⟨by show i < y; omega, b2, b3, ?_⟩
      show x.2.2.length + 1 ≤ (9 - w) * (x.2.1 - u)
      rw [show 9 - w = (9 - (w + 1)) + 1 by omega, Nat.add_mul]
      omega
