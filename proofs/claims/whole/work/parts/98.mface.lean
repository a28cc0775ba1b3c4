/-! the model reads a face line -/
set_option maxHeartbeats 4000000 in
theorem m_rowL {α : Type} {rl : Bool} {n : Nat} {X : Nat → Nat} {N J rb P F : Nat} (hB : TXN rl n X N) (hr : rb ≤ 1) (hP : P ≤ 8) (hF : F < 16) : ∀ k m g (r : Ex α) h, m + k = P → k < g → Mx rl n X h → Mg (tks rl n X) N n (J + m) r h → h.1 151 27 = nI rb → h.1 154 rb = nI P → h.1 155 rb = nI F → ∃ h', f_X12_readFace_L120 (nI (16 * rb + F)) g (nI m) h = some ((), h') ∧ Mg (tks rl n X) N n (J + P) (bd r fun a => bd (sRw (tks rl n X) J k m) fun _ => .ok a) h' ∧ (∀ a, r = .ok a → sRw (tks rl n X) J k m = .ok () → ∀ j, m ≤ j → j < P → h'.1 160 (8 * (16 * rb + F) + j) = nI (kV (tks rl n X (J + j))) ∧ kV (tks rl n X (J + j)) ≤ 99) ∧ h'.1 155 rb = nI (F + 1) ∧ Mx rl n X h' ∧ Fz (fun a q => xM a q ∨ (a = 155 ∧ q = rb) ∨ (a = 160 ∧ 8 * (16 * rb + F) + m ≤ q ∧ q < 8 * (16 * rb + F) + 8)) lG h h' := by
  intro k
  induction k with
  | zero =>
    intro m g r h hm hg hL G b1 b2 b3
    obtain ⟨g, rfl⟩ : ∃ x, g = x + 1 := ⟨g - 1, by omega⟩
    unfold f_X12_readFace_L120 sRw
    rw [b1, rdA_nI (by omega) (by omega), b2, if_neg (by rw [uI_lt (by omega) (by omega)]; omega), rdA_nI (by omega) (by omega), b3, uI_add, wrA_nI (by omega) (by omega)]
    have k3 : Fz (fun a q => xM a q ∨ (a = 155 ∧ q = rb) ∨ (a = 160 ∧ 8 * (16 * rb + F) + m ≤ q ∧ q < 8 * (16 * rb + F) + 8)) (fun _ _ => False) h (sI h 155 rb (nI (F + 1))) := Fz.sI (by omega)
    have e : m = P := by omega
    subst e
    refine ⟨_, rfl, ?_, fun a _ _ j h1 h2 => by omega, sI_at, hL.fz k3 (by unfold xM; omega) (by unfold xM; omega) (by intro k; unfold xM; omega), k3.mono (fun _ _ q => q) (fun _ _ q => q.elim)⟩
    have k4 : Fz (fun a q => a = 155) (fun _ _ => False) h (sI h 155 rb (nI (F + 1))) := Fz.sI rfl
    have : (bd r fun a => bd (Except.ok () : Ex Unit) fun _ => .ok a) = r := by cases r <;> rfl
    rw [this]
    exact G.fz k4 (by intro k h1 h2; omega) id
  | succ k ih =>
    intro m g r h hm hg hL G b1 b2 b3
    obtain ⟨g, rfl⟩ : ∃ x, g = x + 1 := ⟨g - 1, by omega⟩
    unfold f_X12_readFace_L120
    rw [b1, rdA_nI (by omega) (by omega), b2, if_pos (by rw [uI_lt (by omega) (by omega)]; omega)]
    obtain ⟨v, h2, a2, g2, v1, v2, v3, L2, f2⟩ := m_num (lo := 0) (hi := 99) hB hL G (by omega) (by omega)
    rw [a2, cl_some, uI_mul, uI_add, wrA_nI (by omega) (by omega), uI_add]
    have k3 : Fz (fun a q => a = 160 ∧ q = 8 * (16 * rb + F) + m) (fun _ _ => False) h2 (sI h2 160 (8 * (16 * rb + F) + m) (nI v)) := Fz.sI ⟨rfl, rfl⟩
    have e160 : (sI h2 160 (8 * (16 * rb + F) + m) (nI v)).1 160 (8 * (16 * rb + F) + m) = nI v := sI_at
    generalize sI h2 160 (8 * (16 * rb + F) + m) (nI v) = h3 at *
    have G3 := g2.fz k3 (by intro k h1 h2; omega) id
    have L3 := L2.fz k3 (by omega) (by omega) (by intro k; omega)
    obtain ⟨h4, a4, g4, r4, e4, L4, f4⟩ := ih (m + 1) g (bd (bd r fun a => bd (sNm (tks rl n X) (J + m) 0 99) fun w => (.ok (a, w) : Ex (α × Nat))) fun q => .ok q.1) h3 (by omega) (by omega) L3 (G3.mp (fun q => q.1)) (by rw [k3.1 _ _ (by omega), f2.1 _ _ (by unfold xM; omega)]; exact b1) (by rw [k3.1 _ _ (by omega), f2.1 _ _ (by unfold xM; omega)]; exact b2) (by rw [k3.1 _ _ (by omega), f2.1 _ _ (by unfold xM; omega)]; exact b3)
    have eq : (bd (bd (bd r fun a => bd (sNm (tks rl n X) (J + m) 0 99) fun w => (.ok (a, w) : Ex (α × Nat))) fun q => .ok q.1) fun a => bd (sRw (tks rl n X) J k (m + 1)) fun _ => .ok a) = bd r fun a => bd (sRw (tks rl n X) J (k + 1) m) fun _ => .ok a := by
      cases r with
      | error e => rfl
      | ok a =>
        rw [show sRw (tks rl n X) J (k + 1) m = bd (sNm (tks rl n X) (J + m) 0 99) fun _ => sRw (tks rl n X) J k (m + 1) from rfl]
        simp only [bd_as, bd_ok]
    refine ⟨h4, a4, ?_, fun a ha hs j h1 h2 => ?_, e4, L4, ?_⟩
    · rw [← eq]; exact g4
    · unfold sRw at hs
      obtain ⟨w, w1, w2⟩ := bd_inv hs
      have vw := v3 a w ha w1
      obtain ⟨q1, q2, q3, q4⟩ := sNm_ok w1
      by_cases e : j = m
      · rw [e, f4.1 _ _ (by unfold xM; omega), e160, vw, ← q2]
        exact ⟨rfl, q4⟩
      · exact r4 a (by rw [ha]; show bd (bd (sNm _ _ _ _) _) _ = _; rw [w1]; rfl) w2 j (by omega) h2
    · have w1 : Fz (fun a q => xM a q ∨ (a = 155 ∧ q = rb) ∨ (a = 160 ∧ 8 * (16 * rb + F) + m ≤ q ∧ q < 8 * (16 * rb + F) + 8)) lG h h2 := f2.mono (fun _ _ q => Or.inl q) (fun _ _ q => q)
      have w2 := w1.tr (k3.mono (fun a q z => Or.inr (Or.inr (by omega))) (fun _ _ q => q.elim))
      exact w2.tr (f4.mono (fun a q z => by
        rcases z with z | z | z
        · exact Or.inl z
        · exact Or.inr (Or.inl z)
        · exact Or.inr (Or.inr (by omega))) (fun _ _ q => q))
def fcS (T : Nat → Tk) (i : Nat) (d : Dr) : Ex (Nat × Nat) := if kC (T i) = 24 then (if nmd d (kW (T i)) < dF d then .error (flK T i 3, kS (T i)) else bd (sTk T (i + 1) 2) fun _ => bd (sNm T (i + 2) 0 3) fun k => bd (sTk T (i + 3) 3) fun _ => bd (sNm T (i + 4) 0 9) fun r => bd (sTk T (i + 5) 4) fun _ => bd (sRw T (i + 6) (tP (dt d)) 0) fun _ => .ok (k, r)) else .error (flK T i 2, kS (T i))
def fcR (T : Nat → Tk) (i : Nat) (d : Dr) : Ex Unit := if kC (T i) = 24 then (if nmd d (kW (T i)) < dF d then .error (3, kS (T i)) else .ok ()) else .error (flK T i 2, kS (T i))
def fcN (T : Nat → Tk) (i : Nat) (d : Dr) : Ex ((Unit × Nat) × Nat) := bd (bd (bd (bd (bd (fcR T i d) fun a => bd (sTk T i 24) fun _ => .ok a) fun a => bd (sTk T (i + 1) 2) fun _ => bd (sNm T (i + 1 + 1) 0 3) fun w => .ok (a, w)) fun a => bd (sTk T (i + 1 + 2) 3) fun _ => bd (sNm T (i + 1 + 2 + 1) 0 9) fun w => .ok (a, w)) fun a => bd (sTk T (i + 1 + 2 + 2) 4) fun _ => .ok a) fun a => bd (sRw T (i + 6) (tP (dt d)) 0) fun _ => .ok a
theorem fc_eq (T : Nat → Tk) (i : Nat) (d : Dr) : (bd (fcN T i d) fun q => .ok (q.1.2, q.2)) = fcS T i d := by
  unfold fcN fcR fcS
  simp only [bd_as, bd_ok]
  by_cases c : kC (T i) = 24
  · have e : sTk T i 24 = .ok (i + 1) := by unfold sTk; rw [if_pos c]
    rw [if_pos c, if_pos c, e]
    by_cases z : nmd d (kW (T i)) < dF d
    · rw [if_pos z, if_pos z, bd_er]
      have : flK T i 3 = 3 := by unfold flK; rw [if_neg (by omega)]
      rw [this]
    · rw [if_neg z, if_neg z]
      simp only [bd_ok]
  · rw [if_neg c, if_neg c, bd_er]
set_option maxHeartbeats 4000000 in
theorem m_readFace {rl : Bool} {n : Nat} {X : Nat → Nat} {N i rb : Nat} {d : Dr} {h : CH} (hB : TXN rl n X N) (hL : Mx rl n X h) (u : Mu (tks rl n X) N i h) (m : Md rb d h) (hV : VD d) (h15 : dF d < 16) (hp : dp d = true) : ∃ h', f_X12_readFace h = some ((), h') ∧ Mg (tks rl n X) N n (i + 6 + tP (dt d)) (fcS (tks rl n X) i d) h' ∧ (∀ q, fcS (tks rl n X) i d = .ok q → Md rb (dFace d (kW (tks rl n X i)) q.1 q.2 (fun m => kV (tks rl n X (i + 6 + m)))) h' ∧ kC (tks rl n X i) = 24 ∧ q.1 ≤ 3 ∧ q.2 ≤ 9 ∧ ∀ j, j < tP (dt d) → kV (tks rl n X (i + 6 + j)) ≤ 99) ∧ h'.1 151 27 = nI rb ∧ h'.1 165 rb = bI (dq d) ∧ Mx rl n X h' ∧ Fz (xB rb) lB h h' := by
  have h8 : tP (dt d) ≤ 8 := hV.1.2.1
  obtain ⟨c0, c1, c2, c3, c4, c5, c6, c7, c8, c9, c10, c11, c12, c13, c14, c15⟩ := id m
  have n1 : (-1 : Int32) < 0 := by decide
  unfold f_X12_readFace
  have x2 : (h.1 151 8 = nI 2) = (kC (tks rl n X i) = 24) := by rw [u.2.2.2.2.2.1, ktq_of (by omega), ktq_2]
  have st : ∃ h1, (∀ J : CH → Option (Unit × CH), (jn J fun (j_3 : CH → Option (Unit × CH)) => (if h.1 151 8 = nI 2 then clp (f_X12_faceHere h) fun v_25 => (if v_25 < 0 then j_3 h else cl (f_X12_fails (nI 3) (h.1 151 6) h) fun _ h_27 => j_3 h_27) else cl (f_X12_misplaced h) fun _ h_28 => j_3 h_28)) = J h1) ∧ Mg (tks rl n X) N n i (fcR (tks rl n X) i d) h1 ∧ Fz xM lG h h1 := by
    unfold fcR
    simp only [jn_eq, x2]
    rw [m_faceHere hB u m hV]
    by_cases c : kC (tks rl n X i) = 24
    · by_cases z : nmd d (kW (tks rl n X i)) < dF d
      · obtain ⟨h', g1, g2, g3⟩ := m_fails1 hB.2.1 u (show 1 ≤ 3 by omega) (by omega)
        refine ⟨h', fun J => ?_, ?_, g3⟩
        · rw [if_pos c, clp_some, if_pos (show kC (tks rl n X i) = 24 ∧ nmd d (kW (tks rl n X i)) < dF d from ⟨c, z⟩), if_neg (lt0n (by omega)), g1, cl_some]
        · rw [if_pos c, if_pos z]; exact g2
      · refine ⟨h, fun J => ?_, ?_, Fz.rf⟩
        · rw [if_pos c, clp_some, if_neg (show ¬ (kC (tks rl n X i) = 24 ∧ nmd d (kW (tks rl n X i)) < dF d) from fun q => z q.2), if_pos n1]
        · rw [if_pos c, if_neg z]; exact u
    · obtain ⟨h', g1, g2, g3⟩ := m_mis1 hB.2.1 u
      refine ⟨h', fun J => ?_, ?_, g3⟩
      · rw [if_neg c, g1, cl_some]
      · rw [if_neg c]; exact g2
  obtain ⟨h1, a1, g1, f1⟩ := st
  have L1 := hL.fz f1 (by unfold xM; omega) (by unfold xM; omega) (by intro k; unfold xM; omega)
  rw [c1, rdA_nI (by omega) (by omega), c4, a1]
  have b1 : h1.1 151 27 = nI rb := by rw [f1.1 _ _ (by unfold xM; omega)]; exact c1
  rw [uI_mul, uI_add, wrL_nI (by omega) (by omega)]
  have k2 : Fz (fun _ _ => False) (fun a k => a = 167 ∧ k = 16 * rb + dF d) h1 (sL h1 167 (16 * rb + dF d) (h1.2 151 10)) := Fz.sL ⟨rfl, rfl⟩
  have e167 : (sL h1 167 (16 * rb + dF d) (h1.2 151 10)).2 167 (16 * rb + dF d) = h1.2 151 10 := by rw [sL_2, if_pos ⟨rfl, rfl⟩]
  generalize sL h1 167 (16 * rb + dF d) (h1.2 151 10) = h2 at *
  have G2 := g1.fz k2 (by intro k h1 h2; exact id) (by omega)
  have L2 := L1.fz k2 id id (fun _ => id)
  have jb : ∀ J : Int32 → Option (Unit × CH), (jn J fun (j_6 : Int32 → Option (Unit × CH)) => (if h2.1 151 8 = nI 2 then j_6 (nI 1) else j_6 (nI 0))) = J (bI (decide (h2.1 151 8 = nI 2))) := by
    intro J
    rw [jn_eq]
    by_cases c : h2.1 151 8 = nI 2
    · rw [if_pos c, decide_eq_true c]; rfl
    · rw [if_neg c, decide_eq_false c]; rfl
  rw [jb]
  obtain ⟨h3, a3, g3, L3, f3⟩ := m_must (k := 24) hB L2 G2 (b := decide (h2.1 151 8 = nI 2)) (fun u2 => by
    have : (h2.1 151 8 = nI 2) = (kC (tks rl n X i) = 24) := by rw [u2.2.2.2.2.2.1, ktq_of (by omega), ktq_2]
    exact decide_eq_decide.2 (by rw [this])) (by omega) (by omega)
  rw [a3, cl_some]
  obtain ⟨kk, h4, a4, g4, p4, q4, v4, L4, f4⟩ := m_after (lo := 0) (hi := 3) hB L3 g3 (fun _ g => k8_2 g) (by omega) (by omega) (by omega)
  rw [a4, cl_some, wrA_nI (by omega) (by omega)]
  have k5 : Fz (fun a k => a = 158 ∧ k = 16 * rb + dF d) (fun _ _ => False) h4 (sI h4 158 (16 * rb + dF d) (nI kk)) := Fz.sI ⟨rfl, rfl⟩
  have e158 : (sI h4 158 (16 * rb + dF d) (nI kk)).1 158 (16 * rb + dF d) = nI kk := sI_at
  generalize sI h4 158 (16 * rb + dF d) (nI kk) = h5 at *
  have G5 := g4.fz k5 (by intro k h1 h2; omega) id
  have L5 := L4.fz k5 (by omega) (by omega) (by intro k; omega)
  obtain ⟨rr, h6, a6, g6, p6, q6, v6, L6, f6⟩ := m_after (lo := 0) (hi := 9) hB L5 G5 (fun _ g => k8_3 g) (by omega) (by omega) (by omega)
  rw [a6, cl_some, wrA_nI (by omega) (by omega)]
  have k7 : Fz (fun a k => a = 159 ∧ k = 16 * rb + dF d) (fun _ _ => False) h6 (sI h6 159 (16 * rb + dF d) (nI rr)) := Fz.sI ⟨rfl, rfl⟩
  have e159 : (sI h6 159 (16 * rb + dF d) (nI rr)).1 159 (16 * rb + dF d) = nI rr := sI_at
  generalize sI h6 159 (16 * rb + dF d) (nI rr) = h7 at *
  have G7 := g6.fz k7 (by intro k h1 h2; omega) id
  have L7 := L6.fz k7 (by omega) (by omega) (by intro k; omega)
  obtain ⟨bw, bw1, bw2⟩ := m_isW (j := i + 1 + 2 + 2) (h := h7) hB.2.1 (fun _ g => k8_4 g) (by omega)
  obtain ⟨h8', a8, g8, L8, f8⟩ := m_must (k := 4) hB L7 G7 bw2 (by omega) (by omega)
  rw [bw1, clp_some, a8, cl_some]
  have F1 : Fz (fun a k => xM a k ∨ ((a = 158 ∨ a = 159) ∧ k = 16 * rb + dF d)) (fun a k => lG a k ∨ (a = 167 ∧ k = 16 * rb + dF d)) h h8' := by
    have w1 := f1.mono (S' := fun a k => xM a k ∨ ((a = 158 ∨ a = 159) ∧ k = 16 * rb + dF d)) (L' := fun a k => lG a k ∨ (a = 167 ∧ k = 16 * rb + dF d)) (fun _ _ q => Or.inl q) (fun _ _ q => Or.inl q)
    have w2 := w1.tr (k2.mono (fun _ _ q => q.elim) (fun _ _ q => Or.inr q))
    have w3 := w2.tr (f3.mono (fun _ _ q => Or.inl q) (fun _ _ q => Or.inl q))
    have w4 := w3.tr (f4.mono (fun _ _ q => Or.inl q) (fun _ _ q => Or.inl q))
    have w5 := w4.tr (k5.mono (fun a k q => Or.inr (by omega)) (fun _ _ q => q.elim))
    have w6 := w5.tr (f6.mono (fun _ _ q => Or.inl q) (fun _ _ q => Or.inl q))
    have w7 := w6.tr (k7.mono (fun a k q => Or.inr (by omega)) (fun _ _ q => q.elim))
    exact w7.tr (f8.mono (fun _ _ q => Or.inl q) (fun _ _ q => Or.inl q))
  have nx : ∀ a k, 154 ≤ a → a ≤ 166 → a ≠ 158 → a ≠ 159 → ¬ (xM a k ∨ ((a = 158 ∨ a = 159) ∧ k = 16 * rb + dF d)) := fun a k h1 h2 h3 h4 => by unfold xM; omega
  obtain ⟨h9, a9, g9, r9, e155, L9, f9⟩ := m_rowL (J := i + 6) (P := tP (dt d)) (F := dF d) hB c0 h8 h15 (tP (dt d)) 0 FU _ h8' (by omega) (by show _ < 100000; omega) L8 (show Mg (tks rl n X) N n (i + 6 + 0) _ h8' from g8) (by rw [F1.1 _ _ (by unfold xM; omega)]; exact c1) (by rw [F1.1 _ _ (nx _ _ (by omega) (by omega) (by omega) (by omega))]; exact c2) (by rw [F1.1 _ _ (nx _ _ (by omega) (by omega) (by omega) (by omega))]; exact c4)
  have g9 : Mg (tks rl n X) N n (i + 6 + tP (dt d)) (fcN (tks rl n X) i d) h9 := g9
  have key := g9.mp (fun q => (q.1.2, q.2))
  have eq := fc_eq (tks rl n X) i d
  rw [eq] at key
  have F2 : Fz (fun a q => (xM a q ∨ ((a = 158 ∨ a = 159) ∧ q = 16 * rb + dF d)) ∨ (a = 155 ∧ q = rb) ∨ (a = 160 ∧ 8 * (16 * rb + dF d) ≤ q ∧ q < 8 * (16 * rb + dF d) + 8)) (fun a k => lG a k ∨ (a = 167 ∧ k = 16 * rb + dF d)) h h9 := (F1.mono (fun _ _ q => Or.inl q) (fun _ _ q => q)).tr (f9.mono (fun a q z => by
    rcases z with z | z | z
    · exact Or.inl (Or.inl z)
    · exact Or.inr (Or.inl z)
    · exact Or.inr (Or.inr (by omega))) (fun _ _ q => Or.inl q))
  have ny : ∀ a k, 154 ≤ a → a ≤ 166 → a ≠ 155 → a ≠ 158 → a ≠ 159 → a ≠ 160 → ¬ ((xM a k ∨ ((a = 158 ∨ a = 159) ∧ k = 16 * rb + dF d)) ∨ (a = 155 ∧ k = rb) ∨ (a = 160 ∧ 8 * (16 * rb + dF d) ≤ k ∧ k < 8 * (16 * rb + dF d) + 8)) := fun a k h1 h2 h3 h4 h5 h6 => by unfold xM; omega
  refine ⟨h9, a9, key, fun q hq => ?_, by rw [F2.1 _ _ (by unfold xM; omega)]; exact c1, by rw [F2.1 _ _ (ny _ _ (by omega) (by omega) (by omega) (by omega) (by omega) (by omega))]; exact c13, L9, F2.mono (fun a k q => by
    rcases q with (q | q) | q | q
    · exact Or.inl q
    · unfold xB; omega
    · unfold xB; omega
    · unfold xB; omega) (fun a k q => by
    rcases q with q | q
    · exact Or.inl q
    · exact Or.inr q.1)⟩
  rw [← eq] at hq
  obtain ⟨x8, y8, z8⟩ := bd_inv hq
  unfold fcN at y8
  obtain ⟨x7, y7, z7⟩ := bd_inv y8
  obtain ⟨x6, y6, z6⟩ := bd_inv z7
  have rows := r9 x7 y7 y6
  obtain ⟨x5, y5, z5⟩ := bd_inv y7
  obtain ⟨x5', y5', z5'⟩ := bd_inv z5
  obtain ⟨x4, y4, z4⟩ := bd_inv y5
  obtain ⟨x4', y4', z4'⟩ := bd_inv z4
  obtain ⟨x4w, y4w, z4w⟩ := bd_inv z4'
  have er := v6 x4 x4' x4w y4 y4' y4w
  obtain ⟨x3, y3, z3⟩ := bd_inv y4
  obtain ⟨x3', y3', z3'⟩ := bd_inv z3
  obtain ⟨x3w, y3w, z3w⟩ := bd_inv z3'
  have ek := v4 x3 x3' x3w y3 y3' y3w
  obtain ⟨x2', y2, z2⟩ := bd_inv y3
  obtain ⟨x2w, y2w, z2w⟩ := bd_inv z2
  have ck := (sTk_ok y2w).2
  have qe : q = (kk, rr) := by
    rw [← Except.ok.inj z8, ← Except.ok.inj z6, ← Except.ok.inj z5', ← Except.ok.inj z4w, ← Except.ok.inj z3w, ek, er]
  subst qe
  refine ⟨?_, ck, q4, q6, fun j hj => (rows j (Nat.zero_le _) hj).2⟩
  rw [y2] at g1
  have u1 : Mu (tks rl n X) N i h1 := g1
  have hs : ∀ f, f < dF d + 1 → f ≠ dF d → f < dF d := fun f h1 h2 => by omega
  refine ⟨c0, ?_, ?_, ?_, e155, ?_, fun f hf => ?_, fun f hf => ?_, fun f hf k hk => ?_, fun f hf => ?_, fun f hf => ?_, fun f hf => ?_, ?_, ?_, fun f hf => ?_, fun f hf => ?_⟩
  · rw [F2.1 _ _ (by unfold xM; omega)]; exact c1
  · rw [F2.1 _ _ (ny _ _ (by omega) (by omega) (by omega) (by omega) (by omega) (by omega))]; exact c2
  · rw [F2.1 _ _ (ny _ _ (by omega) (by omega) (by omega) (by omega) (by omega) (by omega))]; exact c3
  · rw [F2.1 _ _ (ny _ _ (by omega) (by omega) (by omega) (by omega) (by omega) (by omega))]; exact c5
  · show _ = if f = dF d then nI kk else tkd (dt d) f
    by_cases e : f = dF d
    · rw [if_pos e, e, f9.1 _ _ (by unfold xM; omega), f8.1 _ _ (by unfold xM; omega), k7.1 _ _ (by omega), f6.1 _ _ (by unfold xM; omega)]; exact e158
    · rw [if_neg e, F2.1 _ _ (by unfold xM; omega)]; exact c6 f (hs f hf e)
  · show _ = if f = dF d then nI rr else tdr (dt d) f
    by_cases e : f = dF d
    · rw [if_pos e, e, f9.1 _ _ (by unfold xM; omega), f8.1 _ _ (by unfold xM; omega)]; exact e159
    · rw [if_neg e, F2.1 _ _ (by unfold xM; omega)]; exact c7 f (hs f hf e)
  · have hk8 : k < tP (dt d) := hk
    by_cases e : f = dF d
    · rw [show ttl (dt (dFace d (kW (tks rl n X i)) kk rr (fun m => kV (tks rl n X (i + 6 + m))))) f = (fun k => nI (kV (tks rl n X (i + 6 + k)))) from if_pos e, e]
      exact (rows k (Nat.zero_le _) hk).1
    · have hf2 := hs f hf e
      rw [show ttl (dt (dFace d (kW (tks rl n X i)) kk rr (fun m => kV (tks rl n X (i + 6 + m))))) f = ttl (dt d) f from if_neg e, F2.1 _ _ (by unfold xM; omega)]
      exact c8 f hf2 k hk
  · rw [F2.1 _ _ (ny _ _ (by omega) (by omega) (by omega) (by omega) (by omega) (by omega))]; exact c9 f hf
  · rw [F2.1 _ _ (ny _ _ (by omega) (by omega) (by omega) (by omega) (by omega) (by omega))]; exact c10 f hf
  · rw [F2.1 _ _ (ny _ _ (by omega) (by omega) (by omega) (by omega) (by omega) (by omega))]; exact c11 f hf
  · rw [F2.1 _ _ (ny _ _ (by omega) (by omega) (by omega) (by omega) (by omega) (by omega)), c12, hp]
    show _ = bI (dp d || _)
    rw [hp]; rfl
  · rw [F2.1 _ _ (ny _ _ (by omega) (by omega) (by omega) (by omega) (by omega) (by omega))]; exact c13
  · rw [F2.1 _ _ (ny _ _ (by omega) (by omega) (by omega) (by omega) (by omega) (by omega))]; exact c14 f hf
  · show _ = nL (w8 (if f = dF d then kW (tks rl n X i) else dn d f))
    by_cases e : f = dF d
    · rw [if_pos e, e, f9.2 _ _ (by unfold lG; omega), f8.2 _ _ (by unfold lG; omega), k7.2 _ _ id, f6.2 _ _ (by unfold lG; omega), k5.2 _ _ id, f4.2 _ _ (by unfold lG; omega), f3.2 _ _ (by unfold lG; omega), e167]
      exact u1.2.2.2.2.2.2.2 (by omega)
    · rw [if_neg e, F2.2 _ _ (by unfold lG; omega)]; exact c15 f (hs f hf e)
set_option maxHeartbeats 4000000 in
theorem m_lineF {rl : Bool} {n : Nat} {X : Nat → Nat} {N i rb : Nat} {d : Dr} {h : CH} (hB : TXN rl n X N) (hL : Mx rl n X h) (u : Mu (tks rl n X) N i h) (m : Md rb d h) (hV : VD d) (hc : kC (tks rl n X i) = 1) (hf : dF d < 16) : ∃ h', f_X12_readLine h = some ((), h') ∧ Mln (tks rl n X) N n rb (sFac (tks rl n X) i d) h' ∧ Mx rl n X h' ∧ Fz (xB rb) lB h h' := by
  have h16 : dF d ≤ 16 := hV.1.2.2.1
  have h20 : tK (dt d) ≤ 20 := hV.1.2.2.2.1
  have fu := m_isFull hB u m hV
  rw [if_neg (by omega), if_pos hc, decide_eq_false (by omega)] at fu
  unfold f_X12_readLine
  have l0 := wd_L hB.2.1 u (fun _ g => k8_0 g) (by omega)
  have l1 := wd_L hB.2.1 u (fun _ g => k8_1 g) (by omega)
  have l5 := wd_L hB.2.1 u (fun _ g => k8_5 g) (by omega)
  have l6 := wd_L hB.2.1 u (fun _ g => k8_6 g) (by omega)
  have l9 := wd_L hB.2.1 u (fun _ g => k8_9 g) (by omega)
  have d0 : (1 = 0) = False := by simp
  have d5 : (1 = 5) = False := by simp
  have d6 : (1 = 6) = False := by simp
  have d9 : (1 = 9) = False := by simp
  have t3 : (h.1 151 8 = nI 3) = True := by
    rw [u.2.2.2.2.2.1, ktq_of (by omega), ktq_3]
    exact eq_true (by omega)
  simp only [l0, l1, l5, l6, l9, hc, d0, d5, d6, d9, t3, if_true, if_false, jn_eq]
  rw [fu, clp_some, if_pos (by decide), m_good1 u.2.1, clp_some, if_neg (by decide)]
  obtain ⟨-, h1, a1, u1, L1, f1⟩ := m_next hB hL u (by unfold kLast; omega)
  rw [a1, cl_some]
  have m1 := m.tk (f1.mono xG_M (fun _ _ q => q))
  have b1 : h1.1 151 27 = nI rb := m1.2.1
  have c0 := m.1
  rw [b1, wrZ_nI (by omega) (by omega), vzb_1]
  have k2 : Fz (fun a k => a = 164 ∧ k = rb) (fun _ _ => False) h1 (sI h1 164 rb (nI 1)) := Fz.sI ⟨rfl, rfl⟩
  have e164 : (sI h1 164 rb (nI 1)).1 164 rb = nI 1 := sI_at
  generalize sI h1 164 rb (nI 1) = h2 at *
  have m2 : Md rb (dt d, dn d, true, dq d, dm d) h2 := by
    obtain ⟨c0, c1, c2, c3, c4, c5, c6, c7, c8, c9, c10, c11, c12, c13, c14, c15⟩ := m1
    exact ⟨c0, by rw [k2.1 _ _ (by omega)]; exact c1, by rw [k2.1 _ _ (by omega)]; exact c2, by rw [k2.1 _ _ (by omega)]; exact c3, by rw [k2.1 _ _ (by omega)]; exact c4, by rw [k2.1 _ _ (by omega)]; exact c5, fun f hf => by rw [k2.1 _ _ (by omega)]; exact c6 f hf, fun f hf => by rw [k2.1 _ _ (by omega)]; exact c7 f hf, fun f hf k hk => by rw [k2.1 _ _ (by omega)]; exact c8 f hf k hk, fun f hf => by rw [k2.1 _ _ (by omega)]; exact c9 f hf, fun f hf => by rw [k2.1 _ _ (by omega)]; exact c10 f hf, fun f hf => by rw [k2.1 _ _ (by omega)]; exact c11 f hf, by rw [e164]; rfl, by rw [k2.1 _ _ (by omega)]; exact c13, fun f hf => by rw [k2.1 _ _ (by omega)]; exact c14 f hf, fun f hf => by rw [k2.2 _ _ id]; exact c15 f hf⟩
  have u2 := u1.fz k2 (by intro k h1 h2; omega) id
  have L2 := L1.fz k2 (by omega) (by omega) (by intro k; omega)
  obtain ⟨h3, a3, G3, v3, b3, b165, L3, f3⟩ := m_readFace (d := (dt d, dn d, true, dq d, dm d)) hB L2 u2 m2 hV hf rfl
  rw [a3, cl_some]
  have F03 : Fz (xB rb) lB h h3 := ((f1.mono (fun a k q => Or.inl (xG_M a k q)) lG_B).tr (k2.mono (fun a k q => Or.inr (by omega)) (fun _ _ q => q.elim))).tr f3
  have b165 : h3.1 165 rb = bI (dq d) := b165
  have tl : ∀ o : CH → Option (Unit × CH), (rdA h3 165 2 (h3.1 151 27) fun v_18 => (if v_18 = 0 then wrZ h3 165 2 (h3.1 151 27) (nI 0) o else wrZ h3 165 2 (h3.1 151 27) (nI 1) o)) = o h3 := by
    intro o
    rw [b3, rdA_nI (by omega) (by omega), b165, ifB, wrZ_nI (by omega) (by omega), wrZ_nI (by omega) (by omega), vzb_0, vzb_1]
    cases hq : dq d with
    | true => rw [if_pos rfl, sI_id (by rw [b165, hq]; rfl)]
    | false => rw [if_neg (by decide), sI_id (by rw [b165, hq]; rfl)]
  rw [tl]
  obtain ⟨h4, a4, g4, L4, f4⟩ := m_tl hB L3 G3
  refine ⟨h4, a4, ?_, L4, F03.tr (f4.mono xM_B lG_B)⟩
  have key := g4.mp (fun q => (i + 7 + tP (dt d) + 1, dFace d (kW (tks rl n X (i + 1))) q.1 q.2 (fun m => kV (tks rl n X (i + 7 + m)))))
  have eq : (bd (bd (fcS (tks rl n X) (i + 1) d) fun a => bd (sTk (tks rl n X) (i + 1 + 6 + tP (dt d)) 59) fun _ => .ok a) fun q => .ok (i + 7 + tP (dt d) + 1, dFace d (kW (tks rl n X (i + 1))) q.1 q.2 (fun m => kV (tks rl n X (i + 7 + m))))) = sFac (tks rl n X) i d := by
    unfold sFac fcS
    rw [if_neg (show ¬ 16 ≤ dF d by omega)]
    by_cases c : kC (tks rl n X (i + 1)) = 24
    · rw [if_pos c, if_pos c]
      by_cases z : nmd d (kW (tks rl n X (i + 1))) < dF d
      · rw [if_pos z, if_pos z, bd_er, bd_er]
      · rw [if_neg z, if_neg z]
        simp only [bd_as, bd_ok]
        congr 1; funext _; congr 1; funext k; congr 1; funext _; congr 1; funext r; congr 1; funext _; congr 1; funext _
        cases e2 : sTk (tks rl n X) (i + 1 + 6 + tP (dt d)) 59 with
        | error e => rfl
        | ok j =>
          obtain ⟨ej, -⟩ := sTk_ok e2
          rw [ej]; rfl
    · rw [if_neg c, if_neg c, bd_er, bd_er]
  have key : Mg (tks rl n X) N n (i + 7 + tP (dt d) + 1) (bd (bd (fcS (tks rl n X) (i + 1) d) fun a => bd (sTk (tks rl n X) (i + 1 + 6 + tP (dt d)) 59) fun _ => .ok a) fun q => .ok (i + 7 + tP (dt d) + 1, dFace d (kW (tks rl n X (i + 1))) q.1 q.2 (fun m => kV (tks rl n X (i + 7 + m))))) h4 := key
  rw [eq] at key
  cases es : sFac (tks rl n X) i d with
  | error e => rw [es] at key; exact key
  | ok q =>
    rw [es] at key
    rw [← eq] at es
    obtain ⟨x1, y1, z1⟩ := bd_inv es
    obtain ⟨x2, y2, z2⟩ := bd_inv y1
    obtain ⟨w1, w2, w3, w4, w5⟩ := v3 x2 y2
    obtain ⟨x3, y3, z3⟩ := bd_inv z2
    cases z3
    cases z1
    have gg := (hB.2.1.2.2.2.2 (i + 1) u1.1).2.2.2 (by omega)
    refine ⟨key, ?_, dFace_V hV hf gg.1 w3 w4 w5⟩
    have w1 := w1.tk f4
    obtain ⟨c0, c1, c2, c3, c4, c5, c6, c7, c8, c9, c10, c11, c12, c13, c14, c15⟩ := w1
    refine ⟨c0, c1, c2, c3, c4, c5, c6, c7, c8, c9, c10, c11, ?_, c13, c14, c15⟩
    rw [c12]
    show bI (true || _) = bI (dp d || decide (0 < dF d + 1))
    rw [decide_eq_true (show 0 < dF d + 1 by omega), Bool.or_true]; rfl
