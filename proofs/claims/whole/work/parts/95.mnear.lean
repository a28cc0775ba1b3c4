/-! the model reads a near line; a line out of place -/
set_option maxHeartbeats 4000000 in
theorem m_lineN {rl : Bool} {n : Nat} {X : Nat → Nat} {N i rb : Nat} {d : Dr} {h : CH} (hB : TXN rl n X N) (hL : Mx rl n X h) (u : Mu (tks rl n X) N i h) (m : Md rb d h) (hV : VD d) (hc : kC (tks rl n X i) = 9) (hf : dq d = false) : ∃ h', f_X12_readLine h = some ((), h') ∧ Mln (tks rl n X) N n rb (sNear (tks rl n X) i d) h' ∧ Mx rl n X h' ∧ Fz (xB rb) lB h h' := by
  have h16 : dF d ≤ 16 := hV.1.2.2.1
  have h20 : tK (dt d) ≤ 20 := hV.1.2.2.2.1
  have fu := m_isFull hB u m hV
  rw [if_neg (by omega), if_neg (by omega), if_neg (by omega), if_pos hc, hf] at fu
  unfold f_X12_readLine
  have l0 := wd_L hB.2.1 u (fun _ g => k8_0 g) (by omega)
  have l1 := wd_L hB.2.1 u (fun _ g => k8_1 g) (by omega)
  have l5 := wd_L hB.2.1 u (fun _ g => k8_5 g) (by omega)
  have l6 := wd_L hB.2.1 u (fun _ g => k8_6 g) (by omega)
  have l9 := wd_L hB.2.1 u (fun _ g => k8_9 g) (by omega)
  have d0 : (9 = 0) = False := by simp
  have d1 : (9 = 1) = False := by simp
  have d5 : (9 = 5) = False := by simp
  have d6 : (9 = 6) = False := by simp
  have t3 : (h.1 151 8 = nI 3) = True := by
    rw [u.2.2.2.2.2.1, ktq_of (by omega), ktq_3]
    exact eq_true (by omega)
  simp only [l0, l1, l5, l6, l9, hc, d0, d1, d5, d6, t3, if_true, if_false, jn_eq]
  rw [fu, clp_some, if_pos (by decide), m_good1 u.2.1, clp_some, if_neg (by decide)]
  obtain ⟨-, h1, a1, u1, L1, f1⟩ := m_next hB hL u (by unfold kLast; omega)
  rw [a1, cl_some]
  have g1 : Mg (tks rl n X) N n (i + 1) (.ok () : Ex Unit) h1 := u1
  obtain ⟨v, h2, a2, g2, v1, v2, v3, L2, f2⟩ := m_num (lo := 0) (hi := 800) hB L1 g1 (by omega) (by omega)
  obtain ⟨c0, c1, c2, c3, c4, c5, c6, c7, c8, c9, c10, c11, c12, c13, c14, c15⟩ := m
  have F02 : Fz xM lG h h2 := (f1.mono xG_M (fun _ _ q => q)).tr f2
  have b1 : h1.1 151 27 = nI rb := by rw [f1.1 _ _ (by unfold xG; omega)]; exact c1
  have b2 : h2.1 151 27 = nI rb := by rw [F02.1 _ _ (by unfold xM; omega)]; exact c1
  rw [a2, cl_some, b1, wrA_nI (by omega) (by omega)]
  have g2' : (sI h2 157 rb (nI v)).1 151 27 = nI rb := by rw [sI_ne (by omega)]; exact b2
  have g2q : (sI h2 157 rb (nI v)).1 165 rb = nI 0 := by rw [sI_ne (by omega), F02.1 _ _ (by unfold xM; omega), c13, hf]; rfl
  rw [g2', rdA_nI (by omega) (by omega), g2q, if_pos (by decide), wrZ_nI (by omega) (by omega), vzb_1]
  have g3 : Fz (fun a k => (a = 157 ∨ a = 165) ∧ k = rb) (fun _ _ => False) h2 (sI (sI h2 157 rb (nI v)) 165 rb (nI 1)) := (Fz.sI (by omega)).tr (Fz.sI (by omega))
  have e157 : (sI (sI h2 157 rb (nI v)) 165 rb (nI 1)).1 157 rb = nI v := by rw [sI_ne (by omega), sI_at]
  have e165 : (sI (sI h2 157 rb (nI v)) 165 rb (nI 1)).1 165 rb = nI 1 := sI_at
  generalize sI (sI h2 157 rb (nI v)) 165 rb (nI 1) = h3 at *
  have G3 := g2.fz g3 (by intro k h1 h2; omega) id
  have L3 := L2.fz g3 (by omega) (by omega) (by intro k; omega)
  obtain ⟨h4, a4, g4, L4, f4⟩ := m_tl hB L3 G3
  have FT : Fz (fun a k => xM a k ∨ ((a = 157 ∨ a = 165) ∧ k = rb)) lG h h4 := ((F02.mono (fun _ _ q => Or.inl q) (fun _ _ q => q)).tr (g3.mono (fun _ _ q => Or.inr q) (fun _ _ q => q.elim))).tr (f4.mono (fun _ _ q => Or.inl q) (fun _ _ q => q))
  refine ⟨h4, a4, ?_, L4, FT.mono (fun a k q => by
    rcases q with q | q
    · exact Or.inl q
    · unfold xB; omega) lG_B⟩
  unfold sNear
  rw [if_neg (by rw [hf]; decide)]
  cases e1 : sNm (tks rl n X) (i + 1) 0 800 with
  | error e => rw [e1] at g4; exact g4
  | ok w =>
    have vw := v3 () w rfl e1
    obtain ⟨-, -, w1, w2⟩ := sNm_ok e1
    rw [e1] at g4
    have g4 : Mg (tks rl n X) N n (i + 1 + 1 + 1) (bd (sTk (tks rl n X) (i + 2) 59) fun _ => (.ok ((), w) : Ex (Unit × Nat))) h4 := g4
    cases e2 : sTk (tks rl n X) (i + 2) 59 with
    | error e =>
      rw [e2] at g4
      exact g4
    | ok j =>
      rw [e2] at g4
      obtain ⟨ej, -⟩ := sTk_ok e2
      subst ej
      refine ⟨g4, ?_, dNear_V hV w2⟩
      have nx : ∀ a k, 154 ≤ a → a ≤ 166 → a ≠ 157 → a ≠ 165 → ¬ (xM a k ∨ ((a = 157 ∨ a = 165) ∧ k = rb)) := fun a k h1 h2 h3 h4 => by unfold xM; omega
      refine ⟨c0, ?_, ?_, ?_, ?_, ?_, fun f hf => ?_, fun f hf => ?_, fun f hf k hk => ?_, fun f hf => ?_, fun f hf => ?_, fun f hf => ?_, ?_, ?_, fun f hf => ?_, fun f hf => ?_⟩
      · rw [FT.1 _ _ (by unfold xM; omega)]; exact c1
      · rw [FT.1 _ _ (nx _ _ (by omega) (by omega) (by omega) (by omega))]; exact c2
      · rw [f4.1 _ _ (by unfold xM; omega), e157, vw]; rfl
      · rw [FT.1 _ _ (nx _ _ (by omega) (by omega) (by omega) (by omega))]; exact c4
      · rw [FT.1 _ _ (nx _ _ (by omega) (by omega) (by omega) (by omega))]; exact c5
      · rw [FT.1 _ _ (nx _ _ (by omega) (by omega) (by omega) (by omega))]; exact c6 f hf
      · rw [FT.1 _ _ (nx _ _ (by omega) (by omega) (by omega) (by omega))]; exact c7 f hf
      · rw [FT.1 _ _ (nx _ _ (by omega) (by omega) (by omega) (by omega))]; exact c8 f hf k hk
      · rw [FT.1 _ _ (nx _ _ (by omega) (by omega) (by omega) (by omega))]; exact c9 f hf
      · rw [FT.1 _ _ (nx _ _ (by omega) (by omega) (by omega) (by omega))]; exact c10 f hf
      · rw [FT.1 _ _ (nx _ _ (by omega) (by omega) (by omega) (by omega))]; exact c11 f hf
      · rw [FT.1 _ _ (nx _ _ (by omega) (by omega) (by omega) (by omega))]; exact c12
      · rw [f4.1 _ _ (by unfold xM; omega), e165]; rfl
      · rw [FT.1 _ _ (nx _ _ (by omega) (by omega) (by omega) (by omega))]; exact c14 f hf
      · rw [FT.2 _ _ (by unfold lG; omega)]; exact c15 f hf
theorem m_lineX {rl : Bool} {n : Nat} {X : Nat → Nat} {N i rb : Nat} {h : CH} (hB : TXN rl n X N) (hL : Mx rl n X h) (u : Mu (tks rl n X) N i h) (hf : kC (tks rl n X i) ≤ 23 → f_X12_isFull h = some (nI 1)) : ∃ h', f_X12_readLine h = some ((), h') ∧ Mln (tks rl n X) N n rb (.error (flK (tks rl n X) i 2, kS (tks rl n X i))) h' ∧ Mx rl n X h' ∧ Fz (xB rb) lB h h' := by
  have x3 : (h.1 151 8 = nI 3) = (kC (tks rl n X i) ≤ 23) := by rw [u.2.2.2.2.2.1, ktq_of (by omega), ktq_3]
  unfold f_X12_readLine
  rw [jn_eq, jn_eq]
  simp only [x3]
  obtain ⟨h', g1, g2, g3⟩ := m_mis1 hB.2.1 u
  refine ⟨h', ?_, g2, hL.fz g3 (by unfold xM; omega) (by unfold xM; omega) (by intro k; unfold xM; omega), g3.mono xM_B lG_B⟩
  rw [g1, cl_some, m_good0 g2, clp_some, if_pos (show nI 0 = 0 by decide)]
  by_cases c : kC (tks rl n X i) ≤ 23
  · rw [if_pos c, hf c, clp_some, if_neg (by decide)]
  · rw [if_neg c]
