/-! the model reads points, near, printer lines -/
theorem sI_id {h : CH} {a k : Nat} {v : Int32} (e : h.1 a k = v) : sI h a k v = h := by
  subst e
  have : (sI h a k (h.1 a k)).1 = h.1 := by
    funext b j
    rw [sI_1]
    by_cases c : b = a ∧ j = k
    · rw [if_pos c, c.1, c.2]
    · rw [if_neg c]
  exact Prod.ext this rfl
theorem sTk_ok {T : Nat → Tk} {i k j : Nat} (h : sTk T i k = .ok j) : j = i + 1 ∧ kC (T i) = k := by
  unfold sTk at h
  by_cases c : kC (T i) = k
  · rw [if_pos c] at h; cases h; exact ⟨rfl, c⟩
  · rw [if_neg c] at h; cases h
theorem sNm_ok {T : Nat → Tk} {i lo hi v : Nat} (h : sNm T i lo hi = .ok v) : kC (T i) = 25 ∧ v = kV (T i) ∧ lo ≤ v ∧ v ≤ hi := by
  unfold sNm at h
  by_cases c : kC (T i) = 25
  · rw [if_pos c] at h
    by_cases c2 : lo ≤ kV (T i) ∧ kV (T i) ≤ hi
    · rw [if_pos c2] at h; cases h; exact ⟨c, rfl, c2⟩
    · rw [if_neg c2] at h; cases h
  · rw [if_neg c] at h; cases h
/-- the sign behind a line -/
theorem m_tl {α : Type} {rl : Bool} {n : Nat} {X : Nat → Nat} {N j : Nat} {h : CH} {r : Ex α} (hB : TXN rl n X N) (hL : Mx rl n X h) (g : Mg (tks rl n X) N n j r h) : ∃ h', (clp (f_X12_is (nI 59) h) fun v_23 => cl (f_X12_must v_23 h) fun _ h_24 => some ((), h_24)) = some ((), h') ∧ Mg (tks rl n X) N n (j + 1) (bd r fun a => bd (sTk (tks rl n X) j 59) fun _ => .ok a) h' ∧ Mx rl n X h' ∧ Fz xM lG h h' := by
  obtain ⟨b, b1, b2⟩ := m_is hB hL g (show 28 ≤ 59 by omega) (by omega)
  obtain ⟨h', c1, c2, c3, c4⟩ := m_must hB hL g b2 (by omega) (by omega)
  exact ⟨h', by rw [b1, clp_some, c1, cl_some], c2, c3, c4⟩
/-- a line's head: the word, room, the next token -/
theorem wd_L {T : Nat → Tk} {n N i k : Nat} {h : CH} {W : Int64} (hT : TG n T N) (u : Mu T N i h) (hW : ∀ l, gl l → (lg_cmp (nL (w8 l)) W = 0) = (rsv l = k)) (hk : kC (T i) ≤ 24) : (lg_cmp (h.2 151 10) W = 0) = (kC (T i) = k) := by
  have gg := (hT.2.2.2.2 i u.1).2.2.2 hk
  rw [u.2.2.2.2.2.2.2 hk, hW _ gg.1, gg.2]
set_option maxHeartbeats 4000000 in
theorem m_lineP {rl : Bool} {n : Nat} {X : Nat → Nat} {N i rb : Nat} {d : Dr} {h : CH} (hB : TXN rl n X N) (hL : Mx rl n X h) (u : Mu (tks rl n X) N i h) (m : Md rb d h) (hV : VD d) (hc : kC (tks rl n X i) = 0) (hf : ¬ (dp d = true ∨ 0 < dF d)) : ∃ h', f_X12_readLine h = some ((), h') ∧ Mln (tks rl n X) N n rb (sPts (tks rl n X) i d) h' ∧ Mx rl n X h' ∧ Fz (xB rb) lB h h' := by
  have fu := m_isFull hB u m hV
  rw [if_pos hc, show (dp d || decide (0 < dF d)) = false from by
    cases hd : dp d with
    | true => exact absurd (Or.inl hd) hf
    | false => rw [decide_eq_false (fun z => hf (Or.inr z))]; rfl] at fu
  unfold f_X12_readLine
  have l0 := wd_L hB.2.1 u (fun _ g => k8_0 g) (by omega)
  have l1 := wd_L hB.2.1 u (fun _ g => k8_1 g) (by omega)
  have l5 := wd_L hB.2.1 u (fun _ g => k8_5 g) (by omega)
  have l6 := wd_L hB.2.1 u (fun _ g => k8_6 g) (by omega)
  have l9 := wd_L hB.2.1 u (fun _ g => k8_9 g) (by omega)
  have d1 : (0 = 1) = False := by simp
  have d5 : (0 = 5) = False := by simp
  have d6 : (0 = 6) = False := by simp
  have d9 : (0 = 9) = False := by simp
  have t3 : (h.1 151 8 = nI 3) = True := by
    rw [u.2.2.2.2.2.1, ktq_of (by omega), ktq_3]
    exact eq_true (by omega)
  simp only [l0, l1, l5, l6, l9, hc, d1, d5, d6, d9, t3, if_true, if_false, jn_eq]
  rw [fu, clp_some, if_pos (by decide), m_good1 u.2.1, clp_some, if_neg (by decide)]
  obtain ⟨-, h1, a1, u1, L1, f1⟩ := m_next hB hL u (by unfold kLast; omega)
  rw [a1, cl_some]
  have g1 : Mg (tks rl n X) N n (i + 1) (.ok () : Ex Unit) h1 := u1
  obtain ⟨v, h2, a2, g2, v1, v2, v3, L2, f2⟩ := m_num (lo := 3) (hi := 8) hB L1 g1 (by omega) (by omega)
  obtain ⟨c0, c1, c2, c3, c4, c5, c6, c7, c8, c9, c10, c11, c12, c13, c14, c15⟩ := m
  have F02 : Fz xM lG h h2 := (f1.mono xG_M (fun _ _ q => q)).tr f2
  have b1 : h1.1 151 27 = nI rb := by rw [f1.1 _ _ (by unfold xG; omega)]; exact c1
  have b2 : h2.1 151 27 = nI rb := by rw [F02.1 _ _ (by unfold xM; omega)]; exact c1
  rw [a2, cl_some, b1, wrA_nI (by omega) (by omega), sI_ne (by omega), b2, wrZ_nI (by omega) (by omega), vzb_1]
  have g3 : Fz (fun a k => (a = 154 ∨ a = 164) ∧ k = rb) (fun _ _ => False) h2 (sI (sI h2 154 rb (nI v)) 164 rb (nI 1)) := (Fz.sI (by omega)).tr (Fz.sI (by omega))
  have e154 : (sI (sI h2 154 rb (nI v)) 164 rb (nI 1)).1 154 rb = nI v := by rw [sI_ne (by omega), sI_at]
  have e164 : (sI (sI h2 154 rb (nI v)) 164 rb (nI 1)).1 164 rb = nI 1 := sI_at
  generalize sI (sI h2 154 rb (nI v)) 164 rb (nI 1) = h3 at *
  have G3 := g2.fz g3 (by intro k h1 h2; omega) id
  have L3 := L2.fz g3 (by omega) (by omega) (by intro k; omega)
  have b3 : h3.1 151 27 = nI rb := by rw [g3.1 _ _ (by omega)]; exact b2
  have b165 : h3.1 165 rb = bI (dq d) := by rw [g3.1 _ _ (by omega), F02.1 _ _ (by unfold xM; omega)]; exact c13
  have tl : ∀ o : CH → Option (Unit × CH), (rdA h3 165 2 (h3.1 151 27) fun v_18 => (if v_18 = 0 then wrZ h3 165 2 (h3.1 151 27) (nI 0) o else wrZ h3 165 2 (h3.1 151 27) (nI 1) o)) = o h3 := by
    intro o
    rw [b3, rdA_nI (by omega) (by omega), b165, ifB, wrZ_nI (by omega) (by omega), wrZ_nI (by omega) (by omega), vzb_0, vzb_1]
    cases hq : dq d with
    | true => rw [if_pos rfl, sI_id (by rw [b165, hq]; rfl)]
    | false => rw [if_neg (by decide), sI_id (by rw [b165, hq]; rfl)]
  rw [tl]
  obtain ⟨h4, a4, g4, L4, f4⟩ := m_tl hB L3 G3
  have FT : Fz (fun a k => xM a k ∨ ((a = 154 ∨ a = 164) ∧ k = rb)) lG h h4 := ((F02.mono (fun _ _ q => Or.inl q) (fun _ _ q => q)).tr (g3.mono (fun _ _ q => Or.inr q) (fun _ _ q => q.elim))).tr (f4.mono (fun _ _ q => Or.inl q) (fun _ _ q => q))
  refine ⟨h4, a4, ?_, L4, FT.mono (fun a k q => by
    rcases q with q | q
    · exact Or.inl q
    · unfold xB; omega) lG_B⟩
  unfold sPts
  rw [if_neg hf]
  cases e1 : sNm (tks rl n X) (i + 1) 3 8 with
  | error e => rw [e1] at g4; exact g4
  | ok w =>
    have vw := v3 () w rfl e1
    obtain ⟨-, -, w1, w2⟩ := sNm_ok e1
    rw [e1] at g4
    cases e2 : sTk (tks rl n X) (i + 2) 59 with
    | error e =>
      have g4 : Mg (tks rl n X) N n (i + 1 + 1 + 1) (bd (sTk (tks rl n X) (i + 2) 59) fun _ => (.ok ((), w) : Ex (Unit × Nat))) h4 := g4
      rw [e2] at g4
      exact g4
    | ok j =>
      have g4 : Mg (tks rl n X) N n (i + 1 + 1 + 1) (bd (sTk (tks rl n X) (i + 2) 59) fun _ => (.ok ((), w) : Ex (Unit × Nat))) h4 := g4
      rw [e2] at g4
      obtain ⟨ej, -⟩ := sTk_ok e2
      subst ej
      refine ⟨g4, ?_, dPts_V hV w1 w2 (by omega)⟩
      have nx : ∀ a k, 154 ≤ a → a ≤ 166 → a ≠ 154 → a ≠ 164 → ¬ (xM a k ∨ ((a = 154 ∨ a = 164) ∧ k = rb)) := fun a k h1 h2 h3 h4 => by unfold xM; omega
      refine ⟨c0, ?_, ?_, ?_, ?_, ?_, fun f hf => ?_, fun f hf => ?_, fun f hf => absurd hf (by show ¬ f < dF d; omega), fun f hf => ?_, fun f hf => ?_, fun f hf => ?_, ?_, ?_, fun f hf => ?_, fun f hf => ?_⟩
      · rw [FT.1 _ _ (by unfold xM; omega)]; exact c1
      · rw [f4.1 _ _ (by unfold xM; omega), e154, vw]; rfl
      · rw [FT.1 _ _ (nx _ _ (by omega) (by omega) (by omega) (by omega))]; exact c3
      · rw [FT.1 _ _ (nx _ _ (by omega) (by omega) (by omega) (by omega))]; exact c4
      · rw [FT.1 _ _ (nx _ _ (by omega) (by omega) (by omega) (by omega))]; exact c5
      · rw [FT.1 _ _ (nx _ _ (by omega) (by omega) (by omega) (by omega))]; exact c6 f hf
      · rw [FT.1 _ _ (nx _ _ (by omega) (by omega) (by omega) (by omega))]; exact c7 f hf
      · rw [FT.1 _ _ (nx _ _ (by omega) (by omega) (by omega) (by omega))]; exact c9 f hf
      · rw [FT.1 _ _ (nx _ _ (by omega) (by omega) (by omega) (by omega))]; exact c10 f hf
      · rw [FT.1 _ _ (nx _ _ (by omega) (by omega) (by omega) (by omega))]; exact c11 f hf
      · rw [f4.1 _ _ (by unfold xM; omega), e164]; rfl
      · rw [FT.1 _ _ (nx _ _ (by omega) (by omega) (by omega) (by omega))]; exact c13
      · rw [FT.1 _ _ (nx _ _ (by omega) (by omega) (by omega) (by omega))]; exact c14 f hf
      · rw [FT.2 _ _ (by unfold lG; omega)]; exact c15 f hf
