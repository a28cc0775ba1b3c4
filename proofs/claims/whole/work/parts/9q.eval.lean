/-! codes: what they are worth -/
def jnd (t : Nat) (a b : Int32) : Int32 :=
  if t = 3 then a * b else if t = 4 then a + b else if t = 5 then a - b
  else if t = 6 then (if a < b then nI 1 else nI 0)
  else if t = 7 then (if b < a then nI 1 else nI 0)
  else if t = 8 then (if a = b then nI 1 else nI 0)
  else if t = 9 then (if a = 0 then nI 0 else if b = 0 then nI 0 else nI 1)
  else (if a = 0 then (if b = 0 then nI 0 else nI 1) else nI 1)
def stp (V : Nat → Int32) (x : Nat × Nat) (s : List Int32) : List Int32 :=
  if x.1 = 0 then nI x.2 :: s
  else if x.1 = 1 then V x.2 :: s
  else if x.1 = 2 then (match s with | a :: s => (if a = 0 then nI 1 else nI 0) :: s | [] => [])
  else (match s with | b :: a :: s => jnd x.1 a b :: s | s => s)
def evR (V : Nat → Int32) : Cd → List Int32 → List Int32
  | [], s => s
  | x :: C, s => stp V x (evR V C s)
theorem evR_app (V : Nat → Int32) : ∀ (a b : Cd) (s : List Int32), evR V (a ++ b) s = evR V a (evR V b s) := by
  intro a
  induction a with
  | nil => intro b s; rfl
  | cons x a ih => intro b s; show stp V x (evR V (a ++ b) s) = stp V x _; rw [ih]
/-- a code that leaves one number, and never runs out of room or numbers -/
def sfe : Cd → Nat → Prop
  | [], _ => True
  | x :: C, d => sfe C d ∧ ∀ (V : Nat → Int32) (s : List Int32), s.length = d → (x.1 ≤ 1 → (evR V C s).length < 40) ∧ (x.1 = 2 → 1 ≤ (evR V C s).length) ∧ (3 ≤ x.1 → 2 ≤ (evR V C s).length) ∧ (evR V C s).length ≤ 40
def opn (bar : Bool) (P : Nat) (x : Nat × Nat) : Prop := x.1 ≤ 10 ∧ (x.1 = 1 → (bar = true → x.2 < 4) ∧ x.2 < 4 + P)
def one (bar : Bool) (P u : Nat) (c : Cd) : Prop := (∀ (V : Nat → Int32) (s : List Int32), ∃ v, evR V c s = v :: s) ∧ (∀ d, d + u ≤ 40 → sfe c d) ∧ ∀ x ∈ c, opn bar P x
theorem sfe_app : ∀ (a b : Cd) (d e : Nat), (∀ (V : Nat → Int32) (s : List Int32), s.length = d → (evR V b s).length = e) → sfe b d → sfe a e → sfe (a ++ b) d := by
  intro a
  induction a with
  | nil => intro b d e _ h _; exact h
  | cons x a ih =>
    intro b d e he hb ha
    refine ⟨ih b d e he hb ha.1, fun V s hs => ?_⟩
    show (x.1 ≤ 1 → (evR V (a ++ b) s).length < 40) ∧ (x.1 = 2 → 1 ≤ (evR V (a ++ b) s).length) ∧ (3 ≤ x.1 → 2 ≤ (evR V (a ++ b) s).length) ∧ (evR V (a ++ b) s).length ≤ 40
    rw [evR_app]
    exact ha.2 V (evR V b s) (he V s hs)
theorem one_bin {bar : Bool} {P u1 u2 a : Nat} {c1 c2 : Cd} (h1 : one bar P u1 c1) (h2 : one bar P u2 c2) (hu : 1 ≤ u1) (hu2 : 1 ≤ u2) (ha : 3 ≤ a) (ha2 : a ≤ 10) : one bar P (u1 + u2) ((a, 0) :: (c2 ++ c1)) := by
  obtain ⟨e1, s1, o1⟩ := h1
  obtain ⟨e2, s2, o2⟩ := h2
  have ev : ∀ (V : Nat → Int32) (s : List Int32), ∃ v w, evR V (c2 ++ c1) s = w :: v :: s := fun V s => by
    obtain ⟨v, hv⟩ := e1 V s
    obtain ⟨w, hw⟩ := e2 V (v :: s)
    exact ⟨v, w, by rw [evR_app, hv, hw]⟩
  refine ⟨fun V s => ?_, fun d hd => ⟨sfe_app c2 c1 d (d + 1) (fun V s hs => ?_) (s1 d (by omega)) (s2 (d + 1) (by omega)), fun V s hs => ?_⟩, fun x hx => ?_⟩
  · obtain ⟨v, w, h⟩ := ev V s
    refine ⟨jnd a v w, ?_⟩
    show stp V (a, 0) (evR V (c2 ++ c1) s) = _
    rw [h]
    unfold stp
    rw [if_neg (by show ¬ a = 0; omega), if_neg (by show ¬ a = 1; omega), if_neg (by show ¬ a = 2; omega)]
  · obtain ⟨v, hv⟩ := e1 V s
    rw [hv, List.length_cons, hs]
  · obtain ⟨v, w, h⟩ := ev V s
    rw [h, List.length_cons, List.length_cons]
    exact ⟨fun z => by have : a ≤ 1 := z; omega, fun z => by omega, fun z => by omega, by omega⟩
  · rcases List.mem_cons.1 hx with z | z
    · rw [z]
      exact ⟨ha2, fun y => by have : a = 1 := y; omega⟩
    · rcases List.mem_append.1 z with y | y
      · exact o2 x y
      · exact o1 x y
theorem one_not {bar : Bool} {P u : Nat} {c : Cd} (h : one bar P u c) (hu : 1 ≤ u) : one bar P u ((2, 0) :: c) := by
  obtain ⟨e1, s1, o1⟩ := h
  refine ⟨fun V s => ?_, fun d hd => ⟨s1 d hd, fun V s hs => ?_⟩, fun x hx => ?_⟩
  · obtain ⟨v, hv⟩ := e1 V s
    refine ⟨if v = 0 then nI 1 else nI 0, ?_⟩
    show stp V (2, 0) (evR V c s) = _
    rw [hv]
    rfl
  · obtain ⟨v, hv⟩ := e1 V s
    rw [hv, List.length_cons]
    exact ⟨fun z => absurd z (by decide), fun _ => by omega, fun z => absurd z (by decide), by omega⟩
  · rcases List.mem_cons.1 hx with z | z
    · rw [z]
      exact ⟨by decide, fun y => absurd y (by decide)⟩
    · exact o1 x z
theorem one_val {bar : Bool} {P : Nat} {x : Nat × Nat} (hx : x.1 ≤ 1) (ho : opn bar P x) : one bar P 1 [x] := by
  refine ⟨fun V s => ?_, fun d hd => ⟨trivial, fun V s hs => ?_⟩, fun y hy => by rw [List.mem_singleton.1 hy]; exact ho⟩
  · by_cases c : x.1 = 0
    · refine ⟨nI x.2, ?_⟩
      show stp V x s = _
      unfold stp
      rw [if_pos c]
    · refine ⟨V x.2, ?_⟩
      show stp V x s = _
      unfold stp
      rw [if_neg c, if_pos (by omega)]
  · show (x.1 ≤ 1 → s.length < 40) ∧ (x.1 = 2 → 1 ≤ s.length) ∧ (3 ≤ x.1 → 2 ≤ s.length) ∧ s.length ≤ 40
    exact ⟨fun _ => by omega, fun z => by omega, fun z => by omega, by omega⟩
theorem one_up {bar : Bool} {P u u2 : Nat} {c : Cd} (h : one bar P u c) (hu : u ≤ u2) : one bar P u2 c := ⟨h.1, fun d hd => h.2.1 d (by omega), h.2.2⟩
theorem lpS_1 {g : Nat → Nat → Ex Gr} {op : Nat → Option Nat} {T : Nat → Tk} {bar : Bool} {P : Nat} (hop : ∀ t a, op t = some a → 3 ≤ a ∧ a ≤ 10) (hg : ∀ i u q, g i u = .ok q → u < q.2.1 ∧ one bar P (q.2.1 - u) q.2.2) : ∀ k u r q, u < r.2.1 → one bar P (r.2.1 - u) r.2.2 → lpS g op T k r = .ok q → u < q.2.1 ∧ one bar P (q.2.1 - u) q.2.2 := by
  intro k
  induction k with
  | zero => intro u r q h0 h1 h2; cases h2; exact ⟨h0, h1⟩
  | succ k ih =>
    intro u r q h0 h1 h2
    unfold lpS at h2
    split at h2
    · cases h2; exact ⟨h0, h1⟩
    · rename_i a ea
      obtain ⟨x, x1, x2⟩ := bd_inv h2
      obtain ⟨y1, y2⟩ := hg _ _ _ x1
      have ao := hop _ _ ea
      refine ih u _ q (by show u < x.2.1; omega) ?_ x2
      show one bar P (x.2.1 - u) ((a, 0) :: (x.2.2 ++ r.2.2))
      rw [show x.2.1 - u = (r.2.1 - u) + (x.2.1 - r.2.1) by omega]
      exact one_bin h1 y2 (by omega) (by omega) ao.1 ao.2
theorem gS_1 {T : Nat → Tk} {bar : Bool} {P : Nat} (hP1 : 1 ≤ P) : ∀ n k w i u r, gS T bar P n k w i u = .ok r → u < r.2.1 ∧ one bar P (r.2.1 - u) r.2.2 := by
  intro n
  induction n with
  | zero => intro k w i u r h; cases h
  | succ n ih =>
    intro k w i u r h
    unfold gS at h
    by_cases k0 : k = 0
    · rw [if_pos k0] at h
      obtain ⟨x, x1, x2⟩ := bd_inv h
      have g := ih 1 w i u x x1
      exact lpS_1 (fun t a e => by unfold opE at e; split at e; cases e; exact ⟨by omega, by omega⟩; cases e) (fun i u q => ih 1 w i u q) 40 u x r g.1 g.2 x2
    rw [if_neg k0] at h
    by_cases k1 : k = 1
    · rw [if_pos k1] at h
      obtain ⟨x, x1, x2⟩ := bd_inv h
      have g := ih 2 w i u x x1
      exact lpS_1 (fun t a e => by unfold opB at e; split at e; cases e; exact ⟨by omega, by omega⟩; cases e) (fun i u q => ih 2 w i u q) 40 u x r g.1 g.2 x2
    rw [if_neg k1] at h
    by_cases k2 : k = 2
    · rw [if_pos k2] at h
      split at h
      · split at h
        · cases h
        · obtain ⟨x, x1, x2⟩ := bd_inv h
          have g := ih 2 (w + 1) (i + 1) u x x1
          cases x2
          exact ⟨g.1, one_not g.2 (by show 1 ≤ x.2.1 - u; omega)⟩
      · exact ih 3 w i u r h
    rw [if_neg k2] at h
    by_cases k3 : k = 3
    · rw [if_pos k3] at h
      obtain ⟨x, x1, x2⟩ := bd_inv h
      have g := ih 4 w i u x x1
      split at x2
      · cases x2; exact g
      · rename_i a ea
        obtain ⟨y, y1, y2⟩ := bd_inv x2
        have g2 := ih 4 w _ _ y y1
        cases y2
        refine ⟨by show u < y.2.1; omega, ?_⟩
        show one bar P (y.2.1 - u) ((a, 0) :: (y.2.2 ++ x.2.2))
        rw [show y.2.1 - u = (x.2.1 - u) + (y.2.1 - x.2.1) by omega]
        refine one_bin g.2 g2.2 (by omega) (by omega) ?_ ?_
        · unfold rlH at ea
          split at ea
          · cases ea; omega
          · split at ea
            · cases ea; omega
            · split at ea
              · cases ea; omega
              · cases ea
        · unfold rlH at ea
          split at ea
          · cases ea; omega
          · split at ea
            · cases ea; omega
            · split at ea
              · cases ea; omega
              · cases ea
    rw [if_neg k3] at h
    by_cases k4 : k = 4
    · rw [if_pos k4] at h
      obtain ⟨x, x1, x2⟩ := bd_inv h
      have g := ih 5 w i u x x1
      exact lpS_1 (fun t a e => by unfold opS at e; split at e; cases e; exact ⟨by omega, by omega⟩; split at e; cases e; exact ⟨by omega, by omega⟩; cases e) (fun i u q => ih 5 w i u q) 40 u x r g.1 g.2 x2
    rw [if_neg k4] at h
    by_cases k5 : k = 5
    · rw [if_pos k5] at h
      obtain ⟨x, x1, x2⟩ := bd_inv h
      have g := ih 6 w i u x x1
      exact lpS_1 (fun t a e => by unfold opT at e; split at e; cases e; exact ⟨by omega, by omega⟩; cases e) (fun i u q => ih 6 w i u q) 40 u x r g.1 g.2 x2
    rw [if_neg k5] at h
    have ov : ∀ y : Nat × Nat, y.1 ≤ 1 → opn bar P y → u < u + 1 ∧ one bar P (u + 1 - u) [y] := fun y h1 h2 => ⟨by omega, by rw [show u + 1 - u = 1 by omega]; exact one_val h1 h2⟩
    by_cases k6 : k = 6
    · rw [if_pos k6] at h
      split at h
      · cases h
      · split at h
        · split at h
          · cases h
          · rename_i nb
            obtain ⟨x, x1, x2⟩ := bd_inv h
            have xv := sNm_ok x1
            cases x2
            exact ov (1, 4 + x) (by show 1 ≤ 1; omega) ⟨by show 1 ≤ 10; omega, fun _ => ⟨fun z => absurd z nb, by show 4 + x < 4 + P; omega⟩⟩
        · split at h
          · cases h
            exact ov (0, kV (T i)) (by show 0 ≤ 1; omega) ⟨by show 0 ≤ 10; omega, fun y => by have : 0 = 1 := y; omega⟩
          · split at h
            · have g := ih 7 w i (u + 1) r h
              exact ⟨by omega, one_up g.2 (by omega)⟩
            · split at h
              · cases h
              · rename_i v ev
                cases h
                have v4 : v < 4 := by
                  unfold vlH at ev
                  repeat' split at ev
                  all_goals first | (cases ev; done) | (cases ev; omega)
                exact ov (1, v) (by show 1 ≤ 1; omega) ⟨by show 1 ≤ 10; omega, fun _ => ⟨fun _ => v4, by show v < 4 + P; omega⟩⟩
    rw [if_neg k6] at h
    split at h
    · cases h
    · obtain ⟨x, x1, x2⟩ := bd_inv h
      obtain ⟨y, y1, y2⟩ := bd_inv x2
      cases y2
      exact ih 0 (w + 1) (i + 1) u x x1
