/-! the model reads rules: the whole call -/
theorem m_rule {n : Nat} {X : Nat → Nat} {N i P bk : Nat} {q : Rq} {M : Cd} {h : CH} (hB : TXN true n X N) (hP1 : 1 ≤ P) (hP : P ≤ 8) (hb : mBk n X bk P h) (u : Mu (tks true n X) N i h) (mq : mQ q M h) (hV : Vq P q) : ∃ h', f_X12_readRule h = some ((), h') ∧ Mrl n X N P i (sRl (tks true n X) P i q) h' ∧ Fz xRM lRM h h' := by
  have v1 := hV.1
  by_cases c0 : kC (tks true n X i) = 10
  · cases hf : (qb q).isSome with
    | false => exact m_rlB hB hP1 hP hb u mq hV c0 hf
    | true =>
      have e : sRl (tks true n X) P i q = .error (flK (tks true n X) i 2, kS (tks true n X i)) := by unfold sRl; rw [if_pos c0, if_pos hf]
      rw [e]
      exact m_rlX hB hb u (Or.inl ⟨c0, by rw [mq.2.2.2.2.1, hf]; decide⟩)
  · by_cases c1 : kC (tks true n X i) = 11
    · by_cases h6 : qn q < 6
      · exact m_rlS hB hP1 hP hb u mq hV c1 h6
      · have e : sRl (tks true n X) P i q = .error (flK (tks true n X) i 2, kS (tks true n X i)) := by unfold sRl; rw [if_neg c0, if_pos c1, if_pos (by omega)]
        rw [e]
        exact m_rlX hB hb u (Or.inr ⟨c0, Or.inr (by rw [mq.2.2.2.1, show qn q = 6 by omega])⟩)
    · have e : sRl (tks true n X) P i q = .error (flK (tks true n X) i 2, kS (tks true n X i)) := by unfold sRl; rw [if_neg c0, if_neg c1]
      rw [e]
      exact m_rlX hB hb u (Or.inr ⟨c0, Or.inl c1⟩)
def m_rsU (h_19 : CH) : Option (Int32 × CH) := wrG h_19 151 45 (h_19.1 151 46) fun h_25 => wrF h_25 151 40 (h_25.1 151 41) fun h_26 => wrF h_26 151 44 (h_26.1 151 37) fun h_27 => wrF h_27 151 42 (h_27.1 151 43) fun h_28 => some (h_28.1 151 42, h_28)
def m_rsT (h : CH) : Option (Int32 × CH) := clp (f_X12_isGood h) fun v_11 => (if v_11 = 0 then some (-1, h) else f_X12_rules_L81 (fun (h_13 : CH) => f_X12_rules_L128 (fun (h_19 : CH) => wrG h_19 151 45 (h_19.1 151 46) fun h_25 => wrF h_25 151 40 (h_25.1 151 41) fun h_26 => wrF h_26 151 44 (h_26.1 151 37) fun h_27 => wrF h_27 151 42 (h_27.1 151 43) fun h_28 => some (h_28.1 151 42, h_28)) FU (nI 0) h_13) FU (nI 0) h)
theorem m_rsL {n : Nat} {X : Nat → Nat} {N P bk : Nat} (hB : TXN true n X N) (hP1 : 1 ≤ P) (hP : P ≤ 8) : ∀ k i q M g h, N < i + k → k < g → mBk n X bk P h → Mu (tks true n X) N i h → mQ q M h → Vq P q → ∃ h', f_X12_rules_L49 g h = m_rsT h' ∧ (match sRs (tks true n X) P k i q with
    | .error e => Mf n e h'
    | .ok q' => (∃ M', mQ q' M' h') ∧ Vq P q' ∧ h'.1 151 4 = nI 0 ∧ h'.1 151 5 = -1) ∧ Fz xRM lRM h h' := by
  intro k
  induction k with
  | zero => intro i q M g h h1 _ _ u; have := u.1; omega
  | succ k ih =>
    intro i q M g h h1 h2 hb u m hV
    obtain ⟨g, rfl⟩ : ∃ y, g = y + 1 := ⟨g - 1, by omega⟩
    have x0 : (h.1 151 8 = 0) = (kC (tks true n X i) = 26) := by rw [u.2.2.2.2.2.1, show (0 : Int32) = nI 0 from rfl, ktq_of (by omega), ktq_0]
    have e : f_X12_rules_L49 (g + 1) h = if kC (tks true n X i) = 26 then m_rsT h else cl (f_X12_readRule h) fun _ h_21 => f_X12_rules_L49 g h_21 := by
      conv => lhs; unfold f_X12_rules_L49
      rw [m_good1 u.2.1, clp_some, jn_eq, if_neg (by decide)]
      simp only [x0]
      unfold m_rsT
      rw [m_good1 u.2.1]
    rw [e]
    unfold sRs
    by_cases c : kC (tks true n X i) = 26
    · rw [if_pos c, if_pos c]
      exact ⟨h, rfl, ⟨⟨M, m⟩, hV, u.2.1, u.2.2.1⟩, Fz.rf⟩
    · rw [if_neg c, if_neg c]
      obtain ⟨h', g1, g2, g4⟩ := m_rule hB hP1 hP hb u m hV
      rw [g1, cl_some]
      cases es : sRl (tks true n X) P i q with
      | error z =>
        rw [es] at g2
        have g2 : Mf n z h' := g2
        obtain ⟨g, rfl⟩ : ∃ y, g = y + 1 := ⟨g - 1, by omega⟩
        refine ⟨h', ?_, g2, g4⟩
        conv => lhs; unfold f_X12_rules_L49
        rw [m_good0 g2, clp_some, jn_eq, if_pos (by decide)]
        unfold m_rsT
        rw [m_good0 g2]
      | ok x =>
        rw [es] at g2
        obtain ⟨g2, ⟨M', g5⟩, g6, g7⟩ := g2
        obtain ⟨h2, k1, k2, k3⟩ := ih x.1 x.2 M' g h' (by omega) (by omega) (hb.m g4) g2 g5 g6
        exact ⟨h2, k1, k2, g4.tr k3⟩
/-- rules as the model holds them -/
def RM (P : Nat) (q : Rq) (M : Cd) (h : CH) : Prop := Vq P q ∧ M.length = (qc q).length ∧ (∀ k, k < qn q → sgm M (qf q k) (enc false (qk q k))) ∧ (∀ f c, qb q = some (f, c) → sgm M f (enc true c)) ∧ h.1 151 40 = nI (qn q) ∧ h.1 151 45 = bI (qb q).isSome ∧ h.1 151 42 = nI (qLn q) ∧ h.1 151 44 = nI (qu q) ∧ CMk 0 M h ∧ (∀ k, k < qn q → h.1 173 (1 + k) = nI (qf q k) ∧ h.1 174 (1 + k) = nI (qf q k + (qk q k).length)) ∧ (∀ f c, qb q = some (f, c) → h.1 173 0 = nI f ∧ h.1 174 0 = nI (f + c.length))
theorem m_r81 : ∀ g j h, j ≤ 400 → 400 - j < g → ∃ h', (∀ K, f_X12_rules_L81 K g (nI j) h = K h') ∧ (∀ k, j ≤ k → k < 400 → h'.1 168 k = h.1 168 (400 + k) ∧ h'.1 169 k = h.1 169 (400 + k)) ∧ Fr (fun a k => (a = 168 ∨ a = 169) ∧ j ≤ k ∧ k < 400) h h' := by
  intro g
  induction g with
  | zero => intro j h _ h2; omega
  | succ g ih =>
    intro j h h1 h2
    by_cases c : j < 400
    · obtain ⟨h', g1, g2, g3⟩ := ih (j + 1) (sI (sI h 168 j (h.1 168 (400 + j))) 169 j (h.1 169 (400 + j))) (by omega) (by omega)
      have gs : Fr (fun a k => (a = 168 ∨ a = 169) ∧ k = j) h (sI (sI h 168 j (h.1 168 (400 + j))) 169 j (h.1 169 (400 + j))) := (Fr.sI (by omega)).tr (Fr.sI (by omega))
      refine ⟨h', fun K => ?_, fun k k1 k2 => ?_, (gs.mono (fun a k q => by omega)).tr (g3.mono (fun a k q => by omega))⟩
      · conv => lhs; unfold f_X12_rules_L81
        rw [if_pos (by rw [uI_lt (by omega) (by omega)]; exact c), uI_add, rdA_nI (by omega) (by omega), wrA_nI (by omega) (by omega), rdA_nI (by omega) (by omega), wrA_nI (by omega) (by omega), uI_add, sI_ne (by omega)]
        exact g1 K
      · by_cases e : k = j
        · rw [e, g3.1 _ _ (by omega), g3.1 _ _ (by omega), sI_ne (by omega), sI_at, sI_at]
          exact ⟨rfl, rfl⟩
        · have := g2 k (by omega) k2
          rw [this.1, this.2, gs.1 _ _ (by omega), gs.1 _ _ (by omega)]
          exact ⟨rfl, rfl⟩
    · refine ⟨h, fun K => ?_, fun k k1 k2 => by omega, Fr.rf⟩
      conv => lhs; unfold f_X12_rules_L81
      rw [if_neg (by rw [uI_lt (by omega) (by omega)]; exact c)]
theorem m_r128 : ∀ g j h, j ≤ 7 → 7 - j < g → ∃ h', (∀ K, f_X12_rules_L128 K g (nI j) h = K h') ∧ (∀ k, j ≤ k → k < 7 → h'.1 173 k = h.1 173 (7 + k) - nI 400 ∧ h'.1 174 k = h.1 174 (7 + k) - nI 400) ∧ Fr (fun a k => (a = 173 ∨ a = 174) ∧ j ≤ k ∧ k < 7) h h' := by
  intro g
  induction g with
  | zero => intro j h _ h2; omega
  | succ g ih =>
    intro j h h1 h2
    by_cases c : j < 7
    · obtain ⟨h', g1, g2, g3⟩ := ih (j + 1) (sI (sI h 173 j (h.1 173 (7 + j) - nI 400)) 174 j (h.1 174 (7 + j) - nI 400)) (by omega) (by omega)
      have gs : Fr (fun a k => (a = 173 ∨ a = 174) ∧ k = j) h (sI (sI h 173 j (h.1 173 (7 + j) - nI 400)) 174 j (h.1 174 (7 + j) - nI 400)) := (Fr.sI (by omega)).tr (Fr.sI (by omega))
      refine ⟨h', fun K => ?_, fun k k1 k2 => ?_, (gs.mono (fun a k q => by omega)).tr (g3.mono (fun a k q => by omega))⟩
      · conv => lhs; unfold f_X12_rules_L128
        rw [if_pos (by rw [uI_lt (by omega) (by omega)]; exact c), uI_add, rdA_nI (by omega) (by omega), wrA_nI (by omega) (by omega), rdA_nI (by omega) (by omega), wrA_nI (by omega) (by omega), uI_add, sI_ne (by omega)]
        exact g1 K
      · by_cases e : k = j
        · rw [e, g3.1 _ _ (by omega), g3.1 _ _ (by omega), sI_ne (by omega), sI_at, sI_at]
          exact ⟨rfl, rfl⟩
        · have := g2 k (by omega) k2
          rw [this.1, this.2, gs.1 _ _ (by omega), gs.1 _ _ (by omega)]
          exact ⟨rfl, rfl⟩
    · refine ⟨h, fun K => ?_, fun k k1 k2 => by omega, Fr.rf⟩
      conv => lhs; unfold f_X12_rules_L128
      rw [if_neg (by rw [uI_lt (by omega) (by omega)]; exact c)]
theorem CMk_cp {h h' : CH} : ∀ {C : Cd}, CMk 400 C h → C.length ≤ 400 → (∀ k, k < 400 → h'.1 168 k = h.1 168 (400 + k) ∧ h'.1 169 k = h.1 169 (400 + k)) → CMk 0 C h' := by
  intro C
  induction C with
  | nil => intro _ _ _; trivial
  | cons x C ih =>
    intro c hl hs
    rw [List.length_cons] at hl
    have := hs (0 + C.length) (by omega)
    refine ⟨this.1.trans ?_, this.2.trans ?_, ih c.2.2 (by omega) hs⟩
    · rw [Nat.zero_add]; exact c.1
    · rw [Nat.zero_add]; exact c.2.1
def xMR (a k : Nat) : Prop := xRM a k ∨ a = 153 ∨ (a = 151 ∧ (k = 2 ∨ k = 3 ∨ k = 11))
def xMS (a k : Nat) : Prop := xMR a k ∨ a = 168 ∨ a = 169 ∨ a = 173 ∨ a = 174 ∨ (a = 151 ∧ (k = 40 ∨ k = 42 ∨ k = 44 ∨ k = 45))
set_option maxHeartbeats 4000000 in
theorem m_rules {n bk P : Nat} {X : Nat → Nat} {N : Nat} {h : CH} (hP1 : 1 ≤ P) (hP : P ≤ 8) (h8 : n ≤ 800) (hbk : bk ≤ 1) (hB : TXN true n X N) (h26 : h.1 151 26 = nI bk) (h154 : h.1 154 bk = nI P) (h2 : h.1 151 2 = nI n) (hx : ∀ j, j < n → (h.1 152 j &&& nI 255) = nI (X j)) : match sRs (tks true n X) P (N + 1) 0 q0 with
    | .error e => ∃ h', f_X12_rules h = some (-1, h') ∧ h'.1 151 2 = nI 0 ∧ h'.1 151 4 = nI e.1 ∧ h'.1 151 5 = nI e.2 ∧ Fz xMR lRM h h'
    | .ok q => ∃ h', f_X12_rules h = some (nI (qLn q), h') ∧ h'.1 151 2 = nI 0 ∧ h'.1 151 4 = nI 0 ∧ h'.1 151 5 = -1 ∧ (∃ M, RM P q M h') ∧ Fz xMS lRM h h' := by
  obtain ⟨hX, hT, hp⟩ := id hB
  have hN := hT.2.2.1
  unfold f_X12_rules
  obtain ⟨g1, a1, a2, a3, a4, a5, a6, a7⟩ := m_takeTape (rl := true) hX.1 h2 hx
  rw [h2, if_neg (by rw [uI_lt (by omega) (by omega)]; omega), show nI 1 = bI true from rfl, a1, cl_some, wrF_eq, wrF_eq, wrF_eq, wrF_eq, wrG_0]
  have f2 : Fr (fun a k => a = 151 ∧ (k = 36 ∨ k = 37 ∨ k = 41 ∨ k = 43 ∨ k = 46)) g1 (sI (sI (sI (sI (sI g1 151 36 (nI 400)) 151 37 (nI 0)) 151 41 (nI 0)) 151 43 (nI 0)) 151 46 (nI 0)) := ((((Fr.sI (by omega)).tr (Fr.sI (by omega))).tr (Fr.sI (by omega))).tr (Fr.sI (by omega))).tr (Fr.sI (by omega))
  have e36 : (sI (sI (sI (sI (sI g1 151 36 (nI 400)) 151 37 (nI 0)) 151 41 (nI 0)) 151 43 (nI 0)) 151 46 (nI 0)).1 151 36 = nI 400 := by rw [sI_ne (by omega), sI_ne (by omega), sI_ne (by omega), sI_ne (by omega), sI_at]
  have e37 : (sI (sI (sI (sI (sI g1 151 36 (nI 400)) 151 37 (nI 0)) 151 41 (nI 0)) 151 43 (nI 0)) 151 46 (nI 0)).1 151 37 = nI 0 := by rw [sI_ne (by omega), sI_ne (by omega), sI_ne (by omega), sI_at]
  have e41 : (sI (sI (sI (sI (sI g1 151 36 (nI 400)) 151 37 (nI 0)) 151 41 (nI 0)) 151 43 (nI 0)) 151 46 (nI 0)).1 151 41 = nI 0 := by rw [sI_ne (by omega), sI_ne (by omega), sI_at]
  have e43 : (sI (sI (sI (sI (sI g1 151 36 (nI 400)) 151 37 (nI 0)) 151 41 (nI 0)) 151 43 (nI 0)) 151 46 (nI 0)).1 151 43 = nI 0 := by rw [sI_ne (by omega), sI_at]
  have e46 : (sI (sI (sI (sI (sI g1 151 36 (nI 400)) 151 37 (nI 0)) 151 41 (nI 0)) 151 43 (nI 0)) 151 46 (nI 0)).1 151 46 = nI 0 := sI_at
  generalize sI (sI (sI (sI (sI g1 151 36 (nI 400)) 151 37 (nI 0)) 151 41 (nI 0)) 151 43 (nI 0)) 151 46 (nI 0) = g2 at *
  have L2 : Mx true n X g2 := a2.fz (Fz.fr (L := fun _ _ => False) f2) (by omega) (by omega) (by intro k; omega)
  obtain ⟨g3, c1, c2, c3⟩ := m_goOn (rl := true) hX (Nat.zero_le n) L2 (by rw [f2.1 _ _ (by omega)]; exact a6)
  rw [c1, cl_some]
  have o3 : ∀ a k, ¬ xG a k → g3.1 a k = g2.1 a k := c3.1
  have hb3 : mBk n X bk P g3 := ⟨L2.fz c3 (by unfold xG; omega) (by unfold xG; omega) (by intro k; unfold xG; omega), hbk, by rw [o3 _ _ (by unfold xG; omega), f2.1 _ _ (by omega), a7.1 _ _ (by omega)]; exact h26, by rw [o3 _ _ (by unfold xG; omega), f2.1 _ _ (by omega), a7.1 _ _ (by omega)]; exact h154⟩
  have u3 : Mu (tks true n X) N 0 g3 := ⟨Nat.zero_le _, by rw [o3 _ _ (by unfold xG; omega), f2.1 _ _ (by omega)]; exact a3, by rw [o3 _ _ (by unfold xG; omega), f2.1 _ _ (by omega)]; exact a4, c2⟩
  have mq3 : mQ q0 [] g3 := ⟨rfl, fun k hk => absurd hk (Nat.not_lt_zero k), fun f c e => (by cases e), by rw [o3 _ _ (by unfold xG; omega)]; exact e41, by rw [o3 _ _ (by unfold xG; omega)]; exact e46, by rw [o3 _ _ (by unfold xG; omega)]; exact e43, by rw [o3 _ _ (by unfold xG; omega)]; exact e37, by rw [o3 _ _ (by unfold xG; omega)]; exact e36, trivial, fun k hk => absurd hk (Nat.not_lt_zero k), fun f c e => (by cases e)⟩
  obtain ⟨g5, e1, e2, e3⟩ := m_rsL hB hP1 hP (N + 1) 0 q0 [] FU g3 (by omega) (by show _ < 100000; omega) hb3 u3 mq3 (q0_V P)
  rw [e1]
  have FT : Fz xMR lRM h g5 := by
    have w1 : Fz xMR lRM h g1 := (Fz.fr a7).mono (fun a k q => by
      rcases q with q | ⟨q1, q2⟩
      · exact Or.inr (Or.inl q)
      · by_cases z : 4 ≤ k ∧ k ≤ 9
        · exact Or.inl (Or.inl (Or.inl ⟨q1, Or.inl z⟩))
        · exact Or.inr (Or.inr ⟨q1, by omega⟩)) (fun _ _ q => q)
    have w2 := w1.tr ((Fz.fr (L := lRM) f2).mono (fun a k q => by
      by_cases z : k ≤ 37
      · exact Or.inl (Or.inl (Or.inl ⟨q.1, by omega⟩))
      · exact Or.inl (Or.inr (Or.inl ⟨q.1, by omega⟩))) (fun _ _ q => q))
    have w3 := w2.tr (c3.mono (fun a k q => Or.inl (Or.inl (xG_Q a k q))) lG_M)
    exact w3.tr (e3.mono (fun a k q => Or.inl q) (fun _ _ q => q))
  have t2 : g5.1 151 2 = nI 0 := by
    rw [e3.1 _ _ (by unfold xRM xQ; omega), o3 _ _ (by unfold xG; omega), f2.1 _ _ (by omega)]; exact a5
  cases es : sRs (tks true n X) P (N + 1) 0 q0 with
  | error e =>
    rw [es] at e2
    have e2 : Mf n e g5 := e2
    refine ⟨g5, ?_, t2, e2.1, e2.2.2.2.1, FT⟩
    unfold m_rsT
    rw [m_good0 e2, clp_some, if_pos (by decide)]
  | ok q =>
    rw [es] at e2
    obtain ⟨⟨M, q1, q2, q3, q4, q5, q6, q7, q8, q9, q10, q11⟩, d6, d7, d8⟩ := e2
    have v1 := d6.1
    have v2 := d6.2.1
    have v3 := d6.2.2.1
    unfold m_rsT
    rw [m_good1 d7, clp_some, if_neg (by decide)]
    obtain ⟨g6, k1, k2, k3⟩ := m_r81 FU 0 g5 (by omega) (by show _ < 100000; omega)
    obtain ⟨g7, l1, l2, l3⟩ := m_r128 FU 0 g6 (by omega) (by show _ < 100000; omega)
    rw [k1, l1]
    have o7 : ∀ k, g7.1 151 k = g5.1 151 k := fun k => by rw [l3.1 _ _ (by omega), k3.1 _ _ (by omega)]
    rw [o7, q5, wrG_b, wrF_eq, wrF_eq, wrF_eq]
    have x41 : (sI g7 151 45 (bI (qb q).isSome)).1 151 41 = nI (qn q) := by rw [sI_ne (by omega), o7]; exact q4
    rw [x41]
    have x37 : (sI (sI g7 151 45 (bI (qb q).isSome)) 151 40 (nI (qn q))).1 151 37 = nI (qu q) := by rw [sI_ne (by omega), sI_ne (by omega), o7]; exact q7
    rw [x37]
    have x43 : (sI (sI (sI g7 151 45 (bI (qb q).isSome)) 151 40 (nI (qn q))) 151 44 (nI (qu q))).1 151 43 = nI (qLn q) := by rw [sI_ne (by omega), sI_ne (by omega), sI_ne (by omega), o7]; exact q6
    rw [x43]
    have g8 : Fr (fun a k => a = 151 ∧ (k = 40 ∨ k = 42 ∨ k = 44 ∨ k = 45)) g7 (sI (sI (sI (sI g7 151 45 (bI (qb q).isSome)) 151 40 (nI (qn q))) 151 44 (nI (qu q))) 151 42 (nI (qLn q))) := (((Fr.sI (by omega)).tr (Fr.sI (by omega))).tr (Fr.sI (by omega))).tr (Fr.sI (by omega))
    have y42 : (sI (sI (sI (sI g7 151 45 (bI (qb q).isSome)) 151 40 (nI (qn q))) 151 44 (nI (qu q))) 151 42 (nI (qLn q))).1 151 42 = nI (qLn q) := sI_at
    have y44 : (sI (sI (sI (sI g7 151 45 (bI (qb q).isSome)) 151 40 (nI (qn q))) 151 44 (nI (qu q))) 151 42 (nI (qLn q))).1 151 44 = nI (qu q) := by rw [sI_ne (by omega), sI_at]
    have y40 : (sI (sI (sI (sI g7 151 45 (bI (qb q).isSome)) 151 40 (nI (qn q))) 151 44 (nI (qu q))) 151 42 (nI (qLn q))).1 151 40 = nI (qn q) := by rw [sI_ne (by omega), sI_ne (by omega), sI_at]
    have y45 : (sI (sI (sI (sI g7 151 45 (bI (qb q).isSome)) 151 40 (nI (qn q))) 151 44 (nI (qu q))) 151 42 (nI (qLn q))).1 151 45 = bI (qb q).isSome := by rw [sI_ne (by omega), sI_ne (by omega), sI_ne (by omega), sI_at]
    generalize sI (sI (sI (sI g7 151 45 (bI (qb q).isSome)) 151 40 (nI (qn q))) 151 44 (nI (qu q))) 151 42 (nI (qLn q)) = g9 at *
    have oc : ∀ k, k < 400 → g9.1 168 k = g5.1 168 (400 + k) ∧ g9.1 169 k = g5.1 169 (400 + k) := fun k hk => by
      have := k2 k (Nat.zero_le _) hk
      rw [g8.1 _ _ (by omega), g8.1 _ _ (by omega), l3.1 _ _ (by omega), l3.1 _ _ (by omega)]
      exact this
    have o173 : ∀ k, k < 7 → g9.1 173 k = g5.1 173 (7 + k) - nI 400 ∧ g9.1 174 k = g5.1 174 (7 + k) - nI 400 := fun k hk => by
      have := l2 k (Nat.zero_le _) hk
      rw [g8.1 _ _ (by omega), g8.1 _ _ (by omega), this.1, this.2, k3.1 _ _ (by omega), k3.1 _ _ (by omega)]
      exact ⟨rfl, rfl⟩
    refine ⟨g9, by rw [y42], ?_, ?_, ?_, ⟨M, d6, q1, q2, q3, y40, y45, y42, y44, CMk_cp q9 (by omega) oc, fun k hk => ?_, fun f c ef => ?_⟩, ?_⟩
    · rw [g8.1 _ _ (by omega), o7]; exact t2
    · rw [g8.1 _ _ (by omega), o7]; exact d7
    · rw [g8.1 _ _ (by omega), o7]; exact d8
    · have r1 := o173 (1 + k) (by omega)
      have r2 := q10 k hk
      rw [r1.1, r1.2, show 7 + (1 + k) = 8 + k by omega, r2.2.1, r2.2.2, uI_sub (by omega), uI_sub (by omega)]
      exact ⟨congrArg nI (by omega), congrArg nI (by omega)⟩
    · have r1 := o173 0 (by omega)
      have r2 := q11 f c ef
      rw [r1.1, r1.2, show 7 + 0 = 7 from rfl, r2.1, r2.2, uI_sub (by omega), uI_sub (by omega)]
      exact ⟨congrArg nI (by omega), congrArg nI (by omega)⟩
    · have w1 := FT.mono (S' := xMS) (L' := lRM) (fun a k q => Or.inl q) (fun _ _ q => q)
      have w2 := w1.tr ((Fz.fr (L := lRM) k3).mono (fun a k q => Or.inr (by omega)) (fun _ _ q => q))
      have w3 := w2.tr ((Fz.fr (L := lRM) l3).mono (fun a k q => Or.inr (by omega)) (fun _ _ q => q))
      exact w3.tr ((Fz.fr (L := lRM) g8).mono (fun a k q => Or.inr (by omega)) (fun _ _ q => q))
