/-! the model reads a whole town -/
theorem m_line {rl : Bool} {n : Nat} {X : Nat → Nat} {N i rb : Nat} {d : Dr} {h : CH} (hB : TXN rl n X N) (hL : Mx rl n X h) (u : Mu (tks rl n X) N i h) (m : Md rb d h) (hV : VD d) : ∃ h', f_X12_readLine h = some ((), h') ∧ Mln (tks rl n X) N n rb (sLn (tks rl n X) i d) h' ∧ Mx rl n X h' ∧ Fz (xB rb) lB h h' := by
  have h16 : dF d ≤ 16 := hV.1.2.2.1
  have h20 : tK (dt d) ≤ 20 := hV.1.2.2.2.1
  have fu := m_isFull hB u m hV
  unfold sLn
  by_cases c0 : kC (tks rl n X i) = 0
  · rw [if_pos c0]
    by_cases hf : dp d = true ∨ 0 < dF d
    · unfold sPts
      rw [if_pos hf]
      rw [if_pos c0, show (dp d || decide (0 < dF d)) = true from by
        rcases hf with z | z
        · rw [z]; rfl
        · rw [decide_eq_true z, Bool.or_true]] at fu
      exact m_lineX hB hL u (fun _ => fu)
    · exact m_lineP hB hL u m hV c0 hf
  rw [if_neg c0]
  rw [if_neg c0] at fu
  by_cases c1 : kC (tks rl n X i) = 1
  · rw [if_pos c1]
    by_cases hf : dF d < 16
    · exact m_lineF hB hL u m hV c1 hf
    · unfold sFac
      rw [if_pos (show 16 ≤ dF d by omega)]
      rw [if_pos c1, decide_eq_true (show dF d = 16 by omega)] at fu
      exact m_lineX hB hL u (fun _ => fu)
  rw [if_neg c1]
  rw [if_neg c1] at fu
  by_cases c5 : kC (tks rl n X i) = 5
  · rw [if_pos c5]
    by_cases hf : tK (dt d) < 20
    · exact m_lineK hB hL u m hV c5 hf
    · unfold sKnw
      rw [if_pos (show 20 ≤ tK (dt d) by omega)]
      rw [if_pos c5, decide_eq_true (show tK (dt d) = 20 by omega)] at fu
      exact m_lineX hB hL u (fun _ => fu)
  rw [if_neg c5]
  rw [if_neg c5] at fu
  by_cases c6 : kC (tks rl n X i) = 6
  · rw [if_pos c6]
    exact m_lineR hB hL u m hV c6
  rw [if_neg c6]
  by_cases c9 : kC (tks rl n X i) = 9
  · rw [if_pos c9]
    rw [if_pos c9] at fu
    cases hf : dq d with
    | false => exact m_lineN hB hL u m hV c9 hf
    | true =>
      unfold sNear
      rw [if_pos hf]
      rw [hf] at fu
      exact m_lineX hB hL u (fun _ => fu)
  rw [if_neg c9]
  rw [if_neg c9, decide_eq_false c6] at fu
  exact m_lineX hB hL u (fun _ => fu)
theorem sLn_ok {T : Nat → Tk} {i : Nat} {d : Dr} {q : Nat × Dr} (h : sLn T i d = .ok q) : i + 2 ≤ q.1 := by
  have fin : ∀ (c : Nat) (g : Dr), (bd (sTk T (i + c) 59) fun j => (.ok (j, g) : Ex (Nat × Dr))) = .ok q → i + c + 1 = q.1 := by
    intro c g hq
    obtain ⟨j, j1, j2⟩ := bd_inv hq
    obtain ⟨e, -⟩ := sTk_ok j1
    rw [← Except.ok.inj j2, e]
  unfold sLn at h
  split at h
  · unfold sPts at h
    split at h
    · cases h
    · obtain ⟨v, v1, v2⟩ := bd_inv h
      have := fin 2 _ v2
      omega
  · split at h
    · unfold sFac at h
      split at h
      · cases h
      · split at h
        · split at h
          · cases h
          · obtain ⟨_, _, z1⟩ := bd_inv h
            obtain ⟨_, _, z2⟩ := bd_inv z1
            obtain ⟨_, _, z3⟩ := bd_inv z2
            obtain ⟨_, _, z4⟩ := bd_inv z3
            obtain ⟨_, _, z5⟩ := bd_inv z4
            obtain ⟨_, _, z6⟩ := bd_inv z5
            have := fin (7 + tP (dt d)) _ (by rw [← Nat.add_assoc]; exact z6)
            omega
        · cases h
    · split at h
      · unfold sKnw at h
        split at h
        · cases h
        · obtain ⟨_, _, z1⟩ := bd_inv h
          obtain ⟨_, _, z2⟩ := bd_inv z1
          split at z2
          · cases z2
          · have := fin 3 _ z2
            omega
      · split at h
        · unfold sPrt at h
          obtain ⟨_, _, z1⟩ := bd_inv h
          split at z1
          · cases z1
          · obtain ⟨_, _, z2⟩ := bd_inv z1
            obtain ⟨_, _, z3⟩ := bd_inv z2
            obtain ⟨_, _, z4⟩ := bd_inv z3
            obtain ⟨_, _, z5⟩ := bd_inv z4
            have := fin 6 _ z5
            omega
        · split at h
          · unfold sNear at h
            split at h
            · cases h
            · obtain ⟨v, v1, v2⟩ := bd_inv h
              have := fin 2 _ v2
              omega
          · cases h
/-- what stands behind the lines -/
def m_twT (h : CH) : Option (Int32 × CH) := clp (f_X12_isGood h) fun v_7 => (if v_7 = 0 then some (-1, h) else wrF h 151 26 (h.1 151 27) fun h_9 => wrF h_9 151 60 (nI 0) fun h_10 => wrF h_10 151 42 (nI 0) fun h_11 => wrF h_11 151 40 (nI 0) fun h_12 => wrF h_12 151 44 (nI 0) fun h_13 => wrG h_13 151 45 (nI 0) fun h_14 => f_X12_town_L88 (fun (h_15 : CH) => rdA h_15 155 2 (h_15.1 151 26) fun v_18 => some (v_18, h_15)) FU (nI 0) h_14)
theorem m_twL {rl : Bool} {n : Nat} {X : Nat → Nat} {N rb : Nat} (hB : TXN rl n X N) : ∀ k i d g h, N < i + k → k < g → Mx rl n X h → Mu (tks rl n X) N i h → Md rb d h → VD d → ∃ h', f_X12_town_L23 g h = m_twT h' ∧ (match sTw (tks rl n X) k i d with
    | .error e => Mf n e h'
    | .ok d' => Md rb d' h' ∧ VD d' ∧ h'.1 151 4 = nI 0 ∧ h'.1 151 5 = -1) ∧ Fz (xB rb) lB h h' := by
  intro k
  induction k with
  | zero => intro i d g h h1 _ _ u; have := u.1; omega
  | succ k ih =>
    intro i d g h h1 h2 hL u m hV
    obtain ⟨g, rfl⟩ : ∃ y, g = y + 1 := ⟨g - 1, by omega⟩
    have x0 : (h.1 151 8 = 0) = (kC (tks rl n X i) = 26) := by rw [u.2.2.2.2.2.1, show (0 : Int32) = nI 0 from rfl, ktq_of (by omega), ktq_0]
    have e : f_X12_town_L23 (g + 1) h = if kC (tks rl n X i) = 26 then m_twT h else cl (f_X12_readLine h) fun _ h_21 => f_X12_town_L23 g h_21 := by
      conv => lhs; unfold f_X12_town_L23
      rw [m_good1 u.2.1, clp_some, jn_eq, if_neg (by decide)]
      simp only [x0]
      unfold m_twT
      rw [m_good1 u.2.1]
    rw [e]
    unfold sTw
    by_cases c : kC (tks rl n X i) = 26
    · rw [if_pos c, if_pos c]
      exact ⟨h, rfl, ⟨m, hV, u.2.1, u.2.2.1⟩, Fz.rf⟩
    · rw [if_neg c, if_neg c]
      obtain ⟨h', g1, g2, g3, g4⟩ := m_line hB hL u m hV
      rw [g1, cl_some]
      cases es : sLn (tks rl n X) i d with
      | error z =>
        rw [es] at g2
        have g2 : Mf n z h' := g2
        obtain ⟨g, rfl⟩ : ∃ y, g = y + 1 := ⟨g - 1, by omega⟩
        refine ⟨h', ?_, g2, g4⟩
        conv => lhs; unfold f_X12_town_L23
        rw [m_good0 g2, clp_some, jn_eq, if_pos (by decide)]
        unfold m_twT
        rw [m_good0 g2]
      | ok q =>
        rw [es] at g2
        obtain ⟨g2, g5, g6⟩ := g2
        have := sLn_ok es
        obtain ⟨h2, k1, k2, k3⟩ := ih q.1 q.2 g h' (by omega) (by omega) g3 g2 g5 g6
        exact ⟨h2, k1, k2, g4.tr k3⟩
