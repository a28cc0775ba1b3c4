/-! the model reads a printer line -/
theorem bd_ok {α β : Type} (a : α) (f : α → Ex β) : bd (.ok a) f = f a := rfl
theorem bd_er {α β : Type} (e : Nat × Nat) (f : α → Ex β) : bd (.error e) f = .error e := rfl
theorem bd_inv {α β : Type} {r : Ex α} {f : α → Ex β} {b : β} (h : bd r f = .ok b) : ∃ a, r = .ok a ∧ f a = .ok b := by
  cases r with
  | error e => cases h
  | ok a => exact ⟨a, rfl, h⟩
theorem Mg.mp {α β : Type} {T : Nat → Tk} {N n j : Nat} {r : Ex α} {h : CH} (g : Mg T N n j r h) (f : α → β) : Mg T N n j (bd r fun a => .ok (f a)) h := by
  cases r <;> exact g
def prtS (T : Nat → Tk) (i : Nat) (d : Dr) : Ex (((Unit × Nat) × Nat) × Nat) := bd (bd (bd (if kC (T i) = 25 ∧ kV (T i) < 4 ∧ (dm d).testBit (kV (T i)) = true then .error (3, kS (T i)) else .ok () : Ex Unit) fun a => bd (sNm T i 0 3) fun w => .ok (a, w)) fun a => bd (sTk T (i + 1) 7) fun _ => bd (sNm T (i + 1 + 1) 0 9) fun w => .ok (a, w)) fun a => bd (sTk T (i + 1 + 2) 8) fun _ => bd (sNm T (i + 1 + 2 + 1) 0 99) fun w => .ok (a, w)
theorem prt_eq (T : Nat → Tk) (i : Nat) (d : Dr) : (bd (prtS T i d) fun q => .ok (q.1.1.2, q.1.2, q.2)) = bd (sNm T i 0 3) fun p => if (dm d).testBit p = true then .error (flK T i 3, kS (T i)) else bd (sTk T (i + 1) 7) fun _ => bd (sNm T (i + 2) 0 9) fun b => bd (sTk T (i + 3) 8) fun _ => bd (sNm T (i + 4) 0 99) fun c => .ok (p, b, c) := by
  unfold prtS
  simp only [bd_as, bd_ok]
  by_cases c : kC (T i) = 25 ∧ kV (T i) < 4 ∧ (dm d).testBit (kV (T i)) = true
  · have e : sNm T i 0 3 = .ok (kV (T i)) := by
      unfold sNm
      rw [if_pos c.1, if_pos (show 0 ≤ kV (T i) ∧ kV (T i) ≤ 3 from ⟨Nat.zero_le _, by omega⟩)]
    rw [if_pos c, e]
    simp only [bd_ok, bd_er, if_pos c.2.2]
    have : flK T i 3 = 3 := by unfold flK; rw [if_neg (by omega)]
    rw [this]
  · rw [if_neg c, bd_ok]
    cases e : sNm T i 0 3 with
    | error z => rfl
    | ok w =>
      obtain ⟨q1, q2, q3, q4⟩ := sNm_ok e
      have nb : ¬ (dm d).testBit w = true := fun z => c ⟨q1, by omega, q2 ▸ z⟩
      rw [bd_ok, bd_ok, if_neg nb]
set_option maxHeartbeats 4000000 in
theorem m_readPrinter {rl : Bool} {n : Nat} {X : Nat → Nat} {N i rb : Nat} {d : Dr} {h : CH} (hB : TXN rl n X N) (hL : Mx rl n X h) (u : Mu (tks rl n X) N i h) (m : Md rb d h) (hV : VD d) : ∃ p b c h', f_X12_readPrinter h = some ((), h') ∧ p ≤ 3 ∧ b ≤ 9 ∧ c ≤ 99 ∧ Mg (tks rl n X) N n (i + 5) (bd (sNm (tks rl n X) i 0 3) fun p => if (dm d).testBit p = true then .error (flK (tks rl n X) i 3, kS (tks rl n X i)) else bd (sTk (tks rl n X) (i + 1) 7) fun _ => bd (sNm (tks rl n X) (i + 2) 0 9) fun b => bd (sTk (tks rl n X) (i + 3) 8) fun _ => bd (sNm (tks rl n X) (i + 4) 0 99) fun c => .ok (p, b, c)) h' ∧ (∀ q, (bd (sNm (tks rl n X) i 0 3) fun p => if (dm d).testBit p = true then .error (flK (tks rl n X) i 3, kS (tks rl n X i)) else bd (sTk (tks rl n X) (i + 1) 7) fun _ => bd (sNm (tks rl n X) (i + 2) 0 9) fun b => bd (sTk (tks rl n X) (i + 3) 8) fun _ => bd (sNm (tks rl n X) (i + 4) 0 99) fun c => (.ok (p, b, c) : Ex (Nat × Nat × Nat))) = .ok q → q = (p, b, c)) ∧ h'.1 166 (4 * rb + p) = nI 1 ∧ h'.1 162 (4 * rb + p) = nI b ∧ h'.1 163 (4 * rb + p) = nI c ∧ Mx rl n X h' ∧ Fz (fun a k => xM a k ∨ ((a = 162 ∨ a = 163 ∨ a = 166) ∧ k = 4 * rb + p)) lG h h' := by
  have h4 := hV.2.2.2
  obtain ⟨c0, c1, c2, c3, c4, c5, c6, c7, c8, c9, c10, c11, c12, c13, c14, c15⟩ := m
  unfold f_X12_readPrinter
  have x4 : (h.1 151 8 = nI 4) = (kC (tks rl n X i) = 25) := by rw [u.2.2.2.2.2.1, ktq_of (by omega), ktq_4]
  have vn := (hB.2.1.2.2.2.2 i u.1).2.2.1
  have st : ∃ h1, (∀ o : CH → Option (Unit × CH), (jn o fun (o : CH → Option (Unit × CH)) => (if h.1 151 8 = nI 4 then (if h.1 151 9 < nI 4 then rdA h 166 8 (nI 4 * h.1 151 27 + h.1 151 9) fun v_14 => (if v_14 = 0 then o h else cl (f_X12_fails (nI 3) (h.1 151 6) h) fun _ h_16 => o h_16) else o h) else o h)) = o h1) ∧ Mg (tks rl n X) N n i (if kC (tks rl n X i) = 25 ∧ kV (tks rl n X i) < 4 ∧ (dm d).testBit (kV (tks rl n X i)) = true then .error (3, kS (tks rl n X i)) else .ok () : Ex Unit) h1 ∧ Fz xM lG h h1 := by
    by_cases c : kC (tks rl n X i) = 25
    · have vn := vn c
      have e9 := u.2.2.2.2.2.2.1 c
      have x5 : (nI (kV (tks rl n X i)) < nI 4) = (kV (tks rl n X i) < 4) := uI_lt (by omega) (by omega)
      by_cases c2 : kV (tks rl n X i) < 4
      · have e14 := c14 _ c2
        by_cases c3 : (dm d).testBit (kV (tks rl n X i)) = true
        · obtain ⟨h', g1, g2, g3⟩ := m_fails1 hB.2.1 u (show 1 ≤ 3 by omega) (by omega)
          refine ⟨h', fun o => ?_, ?_, g3⟩
          · rw [jn_eq, u.2.2.2.2.2.1, if_pos (show nI (kt (kC (tks rl n X i))) = nI 4 from by rw [ktq_of (by omega), ktq_4]; exact c), e9]
            simp only [x5]
            rw [if_pos c2, c1, uI_mul, uI_add, rdA_nI (by omega) (by omega), e14, ifB, if_pos c3, g1, cl_some]
          · rw [if_pos ⟨c, c2, c3⟩]
            exact g2
        · refine ⟨h, fun o => ?_, ?_, Fz.rf⟩
          · rw [jn_eq, u.2.2.2.2.2.1, if_pos (show nI (kt (kC (tks rl n X i))) = nI 4 from by rw [ktq_of (by omega), ktq_4]; exact c), e9]
            simp only [x5]
            rw [if_pos c2, c1, uI_mul, uI_add, rdA_nI (by omega) (by omega), e14, ifB, if_neg c3]
          · rw [if_neg (fun z => c3 z.2.2)]
            exact u
      · refine ⟨h, fun o => ?_, ?_, Fz.rf⟩
        · rw [jn_eq, u.2.2.2.2.2.1, if_pos (show nI (kt (kC (tks rl n X i))) = nI 4 from by rw [ktq_of (by omega), ktq_4]; exact c), e9]
          simp only [x5]
          rw [if_neg c2]
        · rw [if_neg (fun z => c2 z.2.1)]
          exact u
    · refine ⟨h, fun o => ?_, ?_, Fz.rf⟩
      · rw [jn_eq, u.2.2.2.2.2.1, if_neg (show ¬ nI (kt (kC (tks rl n X i))) = nI 4 from by rw [ktq_of (by omega), ktq_4]; exact c)]
      · rw [if_neg (fun z => c z.1)]
        exact u
  obtain ⟨h1, a1, g1, f1⟩ := st
  have L1 := hL.fz f1 (by unfold xM; omega) (by unfold xM; omega) (by intro k; unfold xM; omega)
  rw [a1]
  obtain ⟨p, h2, a2, g2, p1, p2, p3, L2, f2⟩ := m_num (lo := 0) (hi := 3) hB L1 g1 (by omega) (by omega)
  have b1 : h1.1 151 27 = nI rb := by rw [f1.1 _ _ (by unfold xM; omega)]; exact c1
  rw [a2, cl_some, b1, uI_mul, uI_add, wrZ_nI (by omega) (by omega), vzb_1]
  have k3 : Fz (fun a k => a = 166 ∧ k = 4 * rb + p) (fun _ _ => False) h2 (sI h2 166 (4 * rb + p) (nI 1)) := Fz.sI ⟨rfl, rfl⟩
  have e166 : (sI h2 166 (4 * rb + p) (nI 1)).1 166 (4 * rb + p) = nI 1 := sI_at
  generalize sI h2 166 (4 * rb + p) (nI 1) = h3 at *
  have G3 := g2.fz k3 (by intro k h1 h2; omega) id
  have L3 := L2.fz k3 (by omega) (by omega) (by intro k; omega)
  obtain ⟨b, h5, a5, g5, b5, b6, b7, L5, f5⟩ := m_after (lo := 0) (hi := 9) hB L3 G3 (fun _ g => k8_7 g) (by omega) (by omega) (by omega)
  rw [a5, cl_some, wrA_nI (by omega) (by omega)]
  have k6 : Fz (fun a k => a = 162 ∧ k = 4 * rb + p) (fun _ _ => False) h5 (sI h5 162 (4 * rb + p) (nI b)) := Fz.sI ⟨rfl, rfl⟩
  have e162 : (sI h5 162 (4 * rb + p) (nI b)).1 162 (4 * rb + p) = nI b := sI_at
  generalize sI h5 162 (4 * rb + p) (nI b) = h6 at *
  have G6 := g5.fz k6 (by intro k h1 h2; omega) id
  have L6 := L5.fz k6 (by omega) (by omega) (by intro k; omega)
  obtain ⟨c, h7, a7, g7, v5, v6, v7, L7, f7⟩ := m_after (lo := 0) (hi := 99) hB L6 G6 (fun _ g => k8_8 g) (by omega) (by omega) (by omega)
  rw [a7, cl_some, wrA_nI (by omega) (by omega)]
  have k8 : Fz (fun a k => a = 163 ∧ k = 4 * rb + p) (fun _ _ => False) h7 (sI h7 163 (4 * rb + p) (nI c)) := Fz.sI ⟨rfl, rfl⟩
  have e163 : (sI h7 163 (4 * rb + p) (nI c)).1 163 (4 * rb + p) = nI c := sI_at
  generalize sI h7 163 (4 * rb + p) (nI c) = h8 at *
  have G8 := g7.fz k8 (by intro k h1 h2; omega) id
  have L8 := L7.fz k8 (by omega) (by omega) (by intro k; omega)
  have key := G8.mp (fun q => (q.1.1.2, q.1.2, q.2))
  have eq := prt_eq (tks rl n X) i d
  unfold prtS at eq
  refine ⟨p, b, c, h8, rfl, p2, b6, v6, ?_, ?_, ?_, ?_, e163, L8, ?_⟩
  · rw [← eq]; exact key
  · intro q hq
    rw [← eq] at hq
    obtain ⟨x8, y8, z8⟩ := bd_inv hq
    obtain ⟨x7, y7, z7⟩ := bd_inv y8
    obtain ⟨x6, y6, z6⟩ := bd_inv z7
    obtain ⟨x5, y5, z5⟩ := bd_inv z6
    have ec := v7 x7 x6 x5 y7 y6 y5
    obtain ⟨x4, y4, z4⟩ := bd_inv y7
    obtain ⟨x3, y3, z3⟩ := bd_inv z4
    obtain ⟨x2, y2, z2⟩ := bd_inv z3
    have eb := b7 x4 x3 x2 y4 y3 y2
    obtain ⟨x1, y1, z1⟩ := bd_inv y4
    obtain ⟨x0, y0, z0⟩ := bd_inv z1
    have ep := p3 x1 x0 y1 y0
    cases z0
    cases z2
    cases z5
    cases z8
    rw [ec, eb, ep]
  · rw [k8.1 _ _ (by omega), f7.1 _ _ (by unfold xM; omega), k6.1 _ _ (by omega), f5.1 _ _ (by unfold xM; omega)]; exact e166
  · rw [k8.1 _ _ (by omega), f7.1 _ _ (by unfold xM; omega)]; exact e162
  · have w1 : Fz (fun a k => xM a k ∨ ((a = 162 ∨ a = 163 ∨ a = 166) ∧ k = 4 * rb + p)) lG h h2 := (f1.tr f2).mono (fun _ _ q => Or.inl q) (fun _ _ q => q)
    have w2 := w1.tr (k3.mono (fun a k q => Or.inr (by omega)) (fun _ _ q => q.elim))
    have w3 := w2.tr (f5.mono (fun _ _ q => Or.inl q) (fun _ _ q => q))
    have w4 := w3.tr (k6.mono (fun a k q => Or.inr (by omega)) (fun _ _ q => q.elim))
    have w5 := w4.tr (f7.mono (fun _ _ q => Or.inl q) (fun _ _ q => q))
    exact w5.tr (k8.mono (fun a k q => Or.inr (by omega)) (fun _ _ q => q.elim))
set_option maxHeartbeats 4000000 in
theorem m_lineR {rl : Bool} {n : Nat} {X : Nat → Nat} {N i rb : Nat} {d : Dr} {h : CH} (hB : TXN rl n X N) (hL : Mx rl n X h) (u : Mu (tks rl n X) N i h) (m : Md rb d h) (hV : VD d) (hc : kC (tks rl n X i) = 6) : ∃ h', f_X12_readLine h = some ((), h') ∧ Mln (tks rl n X) N n rb (sPrt (tks rl n X) i d) h' ∧ Mx rl n X h' ∧ Fz (xB rb) lB h h' := by
  have h16 : dF d ≤ 16 := hV.1.2.2.1
  have h20 : tK (dt d) ≤ 20 := hV.1.2.2.2.1
  have fu := m_isFull hB u m hV
  rw [if_neg (by omega), if_neg (by omega), if_neg (by omega), if_neg (by omega), decide_eq_true hc] at fu
  unfold f_X12_readLine
  have l0 := wd_L hB.2.1 u (fun _ g => k8_0 g) (by omega)
  have l1 := wd_L hB.2.1 u (fun _ g => k8_1 g) (by omega)
  have l5 := wd_L hB.2.1 u (fun _ g => k8_5 g) (by omega)
  have l6 := wd_L hB.2.1 u (fun _ g => k8_6 g) (by omega)
  have l9 := wd_L hB.2.1 u (fun _ g => k8_9 g) (by omega)
  have d0 : (6 = 0) = False := by simp
  have d1 : (6 = 1) = False := by simp
  have d5 : (6 = 5) = False := by simp
  have d9 : (6 = 9) = False := by simp
  have t3 : (h.1 151 8 = nI 3) = True := by
    rw [u.2.2.2.2.2.1, ktq_of (by omega), ktq_3]
    exact eq_true (by omega)
  simp only [l0, l1, l5, l6, l9, hc, d0, d1, d5, d9, t3, if_true, if_false, jn_eq]
  rw [fu, clp_some, if_pos (show bI (!true) = 0 by decide), m_good1 u.2.1, clp_some, if_neg (by decide)]
  obtain ⟨-, h1, a1, u1, L1, f1⟩ := m_next hB hL u (by unfold kLast; omega)
  rw [a1, cl_some]
  obtain ⟨p, b, c, h3, a3, p3, b3', c3', G3, v3, e166, e162, e163, L3, f3⟩ := m_readPrinter hB L1 u1 (m.tk (f1.mono xG_M (fun _ _ q => q))) hV
  rw [a3, cl_some]
  obtain ⟨c0, c1, c2, c3, c4, c5, c6, c7, c8, c9, c10, c11, c12, c13, c14, c15⟩ := m
  have F03 : Fz (fun a k => xM a k ∨ ((a = 162 ∨ a = 163 ∨ a = 166) ∧ k = 4 * rb + p)) lG h h3 := (f1.mono (fun a k q => Or.inl (xG_M a k q)) (fun _ _ q => q)).tr f3
  have nx : ∀ a k, 154 ≤ a → a ≤ 166 → a ≠ 162 → a ≠ 163 → a ≠ 166 → ¬ (xM a k ∨ ((a = 162 ∨ a = 163 ∨ a = 166) ∧ k = 4 * rb + p)) := fun a k h1 h2 h3 h4 h5 => by unfold xM; omega
  have b3 : h3.1 151 27 = nI rb := by rw [F03.1 _ _ (by unfold xM; omega)]; exact c1
  have b165 : h3.1 165 rb = bI (dq d) := by rw [F03.1 _ _ (nx _ _ (by omega) (by omega) (by omega) (by omega) (by omega))]; exact c13
  have tl : ∀ o : CH → Option (Unit × CH), (rdA h3 165 2 (h3.1 151 27) fun v_18 => (if v_18 = 0 then wrZ h3 165 2 (h3.1 151 27) (nI 0) o else wrZ h3 165 2 (h3.1 151 27) (nI 1) o)) = o h3 := by
    intro o
    rw [b3, rdA_nI (by omega) (by omega), b165, ifB, wrZ_nI (by omega) (by omega), wrZ_nI (by omega) (by omega), vzb_0, vzb_1]
    cases hq : dq d with
    | true => rw [if_pos rfl, sI_id (by rw [b165, hq]; rfl)]
    | false => rw [if_neg (by decide), sI_id (by rw [b165, hq]; rfl)]
  rw [tl]
  obtain ⟨h4, a4, g4, L4, f4⟩ := m_tl hB L3 G3
  have FT : Fz (fun a k => xM a k ∨ ((a = 162 ∨ a = 163 ∨ a = 166) ∧ k = 4 * rb + p)) lG h h4 := F03.tr (f4.mono (fun _ _ q => Or.inl q) (fun _ _ q => q))
  refine ⟨h4, a4, ?_, L4, FT.mono (fun a k q => by
    rcases q with q | q
    · exact Or.inl q
    · unfold xB; omega) lG_B⟩
  have key := g4.mp (fun q => (i + 7, dPrt d q.1 q.2.1 q.2.2))
  have eq : (bd (bd (bd (sNm (tks rl n X) (i + 1) 0 3) fun p => if (dm d).testBit p = true then .error (flK (tks rl n X) (i + 1) 3, kS (tks rl n X (i + 1))) else bd (sTk (tks rl n X) (i + 1 + 1) 7) fun _ => bd (sNm (tks rl n X) (i + 1 + 2) 0 9) fun b => bd (sTk (tks rl n X) (i + 1 + 3) 8) fun _ => bd (sNm (tks rl n X) (i + 1 + 4) 0 99) fun c => (.ok (p, b, c) : Ex (Nat × Nat × Nat))) fun a => bd (sTk (tks rl n X) (i + 1 + 5) 59) fun _ => .ok a) fun q => .ok (i + 7, dPrt d q.1 q.2.1 q.2.2)) = sPrt (tks rl n X) i d := by
    unfold sPrt
    simp only [bd_as]
    congr 1
    funext p
    by_cases c : (dm d).testBit p = true
    · rw [if_pos c, if_pos c, bd_er]
    · rw [if_neg c, if_neg c]
      simp only [bd_as, bd_ok]
      congr 1; funext _; congr 1; funext b; congr 1; funext _; congr 1; funext c
      cases e2 : sTk (tks rl n X) (i + 1 + 5) 59 with
      | error e => rfl
      | ok j =>
        obtain ⟨ej, -⟩ := sTk_ok e2
        rw [ej]; rfl
  rw [eq] at key
  cases es : sPrt (tks rl n X) i d with
  | error e => rw [es] at key; exact key
  | ok q =>
    rw [es] at key
    rw [← eq] at es
    obtain ⟨x1, y1, z1⟩ := bd_inv es
    obtain ⟨x2, y2, z2⟩ := bd_inv y1
    have ex := v3 x2 y2
    obtain ⟨x3, y3, z3⟩ := bd_inv z2
    cases z3
    cases z1
    subst ex
    refine ⟨key, ?_, dPrt_V hV p3 b3' c3'⟩
    refine ⟨c0, ?_, ?_, ?_, ?_, ?_, fun f hf => ?_, fun f hf => ?_, fun f hf k hk => ?_, fun f hf => ?_, fun f hf => ?_, fun f hf => ?_, ?_, ?_, fun f hf => ?_, fun f hf => ?_⟩
    · rw [FT.1 _ _ (by unfold xM; omega)]; exact c1
    · rw [FT.1 _ _ (nx _ _ (by omega) (by omega) (by omega) (by omega) (by omega))]; exact c2
    · rw [FT.1 _ _ (nx _ _ (by omega) (by omega) (by omega) (by omega) (by omega))]; exact c3
    · rw [FT.1 _ _ (nx _ _ (by omega) (by omega) (by omega) (by omega) (by omega))]; exact c4
    · rw [FT.1 _ _ (nx _ _ (by omega) (by omega) (by omega) (by omega) (by omega))]; exact c5
    · rw [FT.1 _ _ (nx _ _ (by omega) (by omega) (by omega) (by omega) (by omega))]; exact c6 f hf
    · rw [FT.1 _ _ (nx _ _ (by omega) (by omega) (by omega) (by omega) (by omega))]; exact c7 f hf
    · rw [FT.1 _ _ (nx _ _ (by omega) (by omega) (by omega) (by omega) (by omega))]; exact c8 f hf k hk
    · rw [FT.1 _ _ (nx _ _ (by omega) (by omega) (by omega) (by omega) (by omega))]; exact c9 f hf
    · show _ = if f = p then nI b else tbl (dt d) f
      by_cases e : f = p
      · rw [if_pos e, e, f4.1 _ _ (by unfold xM; omega)]; exact e162
      · rw [if_neg e, FT.1 _ _ (by unfold xM; omega)]; exact c10 f hf
    · show _ = if f = p then nI c else tcs (dt d) f
      by_cases e : f = p
      · rw [if_pos e, e, f4.1 _ _ (by unfold xM; omega)]; exact e163
      · rw [if_neg e, FT.1 _ _ (by unfold xM; omega)]; exact c11 f hf
    · rw [FT.1 _ _ (nx _ _ (by omega) (by omega) (by omega) (by omega) (by omega))]; exact c12
    · rw [FT.1 _ _ (nx _ _ (by omega) (by omega) (by omega) (by omega) (by omega))]; exact c13
    · show _ = bI ((dm d ||| 2 ^ p).testBit f)
      rw [Nat.testBit_or, Nat.testBit_two_pow]
      by_cases e : f = p
      · rw [e, f4.1 _ _ (by unfold xM; omega), e166, decide_eq_true rfl, Bool.or_true]; rfl
      · rw [FT.1 _ _ (by unfold xM; omega), decide_eq_false (fun z => e z.symm), Bool.or_false]; exact c14 f hf
    · rw [FT.2 _ _ (by unfold lG; omega)]; exact c15 f hf
