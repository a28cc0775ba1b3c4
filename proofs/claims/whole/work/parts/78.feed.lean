/-! feed: the class -/
def fdB (a b c d e : Int32) (i : Nat) : Int32 := tpB (if i < 4 then a else if i < 8 then b else if i < 12 then c else if i < 16 then d else e) (i % 4)
def xTP (c j : Nat) : Prop := c = 1 ∨ (c = 0 ∧ j = 1)
theorem c_feed {a b c d e : Int32} {h : CH} {n : Nat} (hn : n ≤ 1600) (h1 : h.1 0 1 = nI n) : (n + 20 ≤ 1600 → ∃ h', f_X11_feed a b c d e h = some (nI (n + 20), h') ∧ h'.1 0 1 = nI (n + 20) ∧ (∀ j, h'.1 1 j = if n ≤ j ∧ j < n + 20 then fdB a b c d e (j - n) else h.1 1 j) ∧ Fr xTP h h') ∧ (1600 < n + 20 → f_X11_feed a b c d e h = some (-1, h)) := by
  unfold f_X11_feed
  rw [h1, uI_add]
  have hx : (nI 1600 < nI (n + 20)) = (1600 < n + 20) := uI_lt (by omega) (by omega)
  simp only [hx]
  refine ⟨fun hl => ?_, fun hl => by rw [if_pos hl]⟩
  rw [if_neg (by omega)]
  obtain ⟨g1, a1, a2, a3, a4⟩ := c_put (x := a) (show n + 4 ≤ 1600 by omega) h1
  obtain ⟨g2, b1, b2, b3, b4⟩ := c_put (x := b) (show n + 4 + 4 ≤ 1600 by omega) a2
  obtain ⟨g3, c1, c2, c3, c4⟩ := c_put (x := c) (show n + 4 + 4 + 4 ≤ 1600 by omega) b2
  obtain ⟨g4, d1, d2, d3, d4⟩ := c_put (x := d) (show n + 4 + 4 + 4 + 4 ≤ 1600 by omega) c2
  obtain ⟨g5, e1, e2, e3, e4⟩ := c_put (x := e) (show n + 4 + 4 + 4 + 4 + 4 ≤ 1600 by omega) d2
  rw [a1, cl_some, b1, cl_some, c1, cl_some, d1, cl_some, e1, cl_some, e2]
  refine ⟨g5, rfl, e2, fun j => ?_, ((((a4.tr b4).tr c4).tr d4).tr e4).mono (fun _ _ z => z)⟩
  rw [e3, d3, c3, b3, a3]
  by_cases z : n ≤ j ∧ j < n + 20
  · rw [if_pos z]
    unfold fdB
    by_cases y5 : n + 16 ≤ j
    · rw [if_pos (by omega), if_neg (by omega), if_neg (by omega), if_neg (by omega), if_neg (by omega)]
      exact congrArg (tpB e) (by omega)
    by_cases y4 : n + 12 ≤ j
    · rw [if_neg (by omega), if_pos (by omega), if_neg (by omega), if_neg (by omega), if_neg (by omega), if_pos (by omega)]
      exact congrArg (tpB d) (by omega)
    by_cases y3 : n + 8 ≤ j
    · rw [if_neg (by omega), if_neg (by omega), if_pos (by omega), if_neg (by omega), if_neg (by omega), if_pos (by omega)]
      exact congrArg (tpB c) (by omega)
    by_cases y2 : n + 4 ≤ j
    · rw [if_neg (by omega), if_neg (by omega), if_neg (by omega), if_pos (by omega), if_neg (by omega), if_pos (by omega)]
      exact congrArg (tpB b) (by omega)
    · rw [if_neg (by omega), if_neg (by omega), if_neg (by omega), if_neg (by omega), if_pos (by omega), if_pos (by omega)]
      exact congrArg (tpB a) (by omega)
  · rw [if_neg z, if_neg (by omega), if_neg (by omega), if_neg (by omega), if_neg (by omega), if_neg (by omega)]
