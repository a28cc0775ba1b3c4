/-! both sides together: town, rules -/
theorem tx_of {n : Nat} (hn : n ≤ 1600) (B : Nat → Int32) : ∃ X, TX n X ∧ ∀ j, j < n → (B j &&& nI 255) = nI (X j) := by
  refine ⟨fun j => if j < n then (B j &&& nI 255).toNatClampNeg else 0, ⟨hn, fun j => ?_, fun j hj => if_neg (by omega)⟩, fun j hj => ?_⟩
  · show (if j < n then (B j &&& nI 255).toNatClampNeg else 0) < 256
    by_cases c : j < n
    · rw [if_pos c]; exact (m255 _).1
    · rw [if_neg c]; omega
  · show _ = nI (if j < n then (B j &&& nI 255).toNatClampNeg else 0)
    rw [if_pos hj]
    exact (m255 _).2
set_option maxHeartbeats 4000000 in
theorem op_town {h : CH} (hI : Iv h) : Op2 f_X11_town f_X12_town h := by
  obtain ⟨t, q, p, bx, n, B, fk, fp, bk, M, gv, ic, im⟩ := hI
  have hn := gv.2.2.2.2
  obtain ⟨X, hX, hB⟩ := tx_of hn B
  obtain ⟨N, hT, hp⟩ := tks_N (rl := false) hX
  have hC := c_town ⟨hX, hT, hp⟩ ic.2.2.2.2.1 (fun j hj => by rw [ic.2.2.2.2.2.1 j hj]; exact hB j hj) ic.2.2.2.2.2.2.2.2
  have hM : ∀ g, IM t q p bx n B fk fp bk M g → _ := fun g ig => m_town (X := X) ig.1.1 ⟨hX, hT, hp⟩ ig.1.2.1 ig.2.2.2.2.1 (fun j hj => by rw [ig.2.2.2.2.2.1 j hj]; exact hB j hj)
  cases es : sTw (tks false n X) (N + 1) 0 d0 with
  | error e =>
    rw [es] at hC
    obtain ⟨h1, e1, t1, k1, k2, f1⟩ := hC
    have im1 := im.c gv.1 f1 (fun a k z1 z2 => by unfold xTw; omega)
    have ic1 : IC t q p bx 0 B (nI e.1) (nI e.2) h1 := ic_tp gv.1 ic f1 (fun a k z => by unfold xTw; omega) (fun a k z => by unfold lTw; omega) t1 (fun j hj => by omega) k1 k2
    have m := hM h1 im1
    rw [es] at m
    obtain ⟨h2, e2, t2, k3, k4, f2⟩ := m
    have hb := im.1.1
    refine ⟨-1, h1, h2, e1, e2, t, q, p, bx, 0, B, _, _, bk, M, ⟨gv.1, gv.2.1, gv.2.2.1, gv.2.2.2.1, by omega⟩, ic1.m gv.1 f2 (fun a k z => by unfold xMw xB xM; omega) (fun a k z => by unfold lB lG; omega), ?_⟩
    refine im_tp gv.1 im1 f2 (im1.1.fz f2 gv.1 (fun a z1 z2 => ?_) (fun a k z1 z2 z3 z4 => ?_) (fun k z3 z4 => ?_) (fun k z3 z4 => ?_) (fun a k z1 z2 z3 z4 => ?_) (by unfold xMw xB xM; omega)) (im1.2.1.fz f2 (fun k hk => by unfold xMw xB xM; omega) (fun k _ => ⟨by unfold xMw xB xM; omega, by unfold xMw xB xM; omega⟩) (fun k _ => ⟨by unfold xMw xB xM; omega, by unfold xMw xB xM; omega⟩)) (fun a k z => by unfold xMw xB xM; omega) (by unfold xMw xB xM; omega) (by unfold xMw xB xM; omega) t2 (fun j hj => by omega) k3 k4
    · unfold xMw xB xM; omega
    · unfold xMw xB xM; omega
    · unfold xMw xB xM; omega
    · unfold xMw xB xM; omega
    · unfold xMw xB xM; omega
  | ok d =>
    rw [es] at hC
    obtain ⟨h1, e1, t1, k1, k2, cT, vd, r0, r1, r2, r5, p0, bx1, f1⟩ := hC
    have im1 := im.c gv.1 f1 (fun a k z1 z2 => by unfold xTo xTw xEB; omega)
    have m := hM h1 im1
    rw [es] at m
    obtain ⟨h2, e2, t2, k3, k4, mT, vd2, s40, s42, s44, s45, s60, bx2, f2⟩ := m
    have hP : tP (dt d) ≤ 8 := vd.1.2.1
    have cp1 : CP 71 (0, pT p, pfa p, pot p, psh p, ppl p, pto p, pun p) h1 := ⟨p0, by rw [f1.1 _ _ (by unfold xTo xTw xEB; omega)]; exact ic.2.2.1.2.1, fun i hi => absurd hi (Nat.not_lt_zero i)⟩
    have rc1 : RC (tP (dt d)) q0 h1 := ⟨q0_V _, ⟨r0, r2, fun f c e => (by cases e), fun k hk => absurd hk (Nat.not_lt_zero k)⟩, r1, trivial⟩
    have ic1 : IC (dt d) q0 (0, pT p, pfa p, pot p, psh p, ppl p, pto p, pun p) (fun _ => none) 0 B (nI 0) (-1) h1 := ⟨cT, rc1, cp1, bx1, t1, fun j hj => by omega, k1, k2, fun r hr => by rw [f1.2 _ _ (by unfold lTo lTw; omega)]; exact ic.2.2.2.2.2.2.2.2 r hr⟩
    refine ⟨_, h1, h2, e1, e2, dt d, q0, (0, pT p, pfa p, pot p, psh p, ppl p, pto p, pun p), (fun _ => none), 0, B, nI 0, -1, 1 - bk, [], ⟨vd.1, vd.2.1, ⟨Nat.zero_le _, gv.2.2.1.2.1, fun i hi => absurd hi (Nat.not_lt_zero i)⟩, fun j hj => trivial, by omega⟩, ic1.m vd.1 f2 (fun a k z => by unfold xMo xMw xB xM; omega) (fun a k z => by unfold lB lG; omega), ?_⟩
    exact ⟨mT, ⟨q0_V _, rfl, fun k hk => absurd hk (Nat.not_lt_zero k), fun f c e => (by cases e), s40, s45, s42, s44, trivial, fun k hk => absurd hk (Nat.not_lt_zero k), fun f c e => (by cases e)⟩, ⟨s60, by rw [f2.1 _ _ (by unfold xMo xMw xB xM; omega)]; exact im1.2.2.1.2.1, fun i hi => absurd hi (Nat.not_lt_zero i)⟩, bx2, t2, fun j hj => by omega, k3, k4⟩
set_option maxHeartbeats 4000000 in
theorem op_rules {h : CH} (hI : Iv h) : Op2 f_X11_rules f_X12_rules h := by
  obtain ⟨t, q, p, bx, n, B, fk, fp, bk, M, gv, ic, im⟩ := hI
  have hn := gv.2.2.2.2
  have hP : tP t ≤ 8 := gv.1.2.1
  have hP1 : 1 ≤ tP t := by have := gv.1.1; omega
  by_cases c8 : 800 < n
  · exact op_id gv ic im (v := -2) (by unfold f_X11_rules; rw [ic.2.2.2.2.1, if_pos (by rw [uI_lt (by omega) (by omega)]; exact c8)]) (by unfold f_X12_rules; rw [im.2.2.2.2.1, if_pos (by rw [uI_lt (by omega) (by omega)]; exact c8)])
  obtain ⟨X, hX, hB⟩ := tx_of hn B
  obtain ⟨N, hT, hp⟩ := tks_N (rl := true) hX
  have hC := c_rules hP1 hP ic.1.1 (by omega) ⟨hX, hT, hp⟩ ic.2.2.2.2.1 (fun j hj => by rw [ic.2.2.2.2.2.1 j hj]; exact hB j hj) ic.2.2.2.2.2.2.2.2
  have hM : ∀ g, IM t q p bx n B fk fp bk M g → _ := fun g ig => m_rules (X := X) hP1 hP (by omega) ig.1.1 ⟨hX, hT, hp⟩ ig.1.2.1 ig.1.2.2.1 ig.2.2.2.2.1 (fun j hj => by rw [ig.2.2.2.2.2.1 j hj]; exact hB j hj)
  cases es : sRs (tks true n X) (tP t) (N + 1) 0 q0 with
  | error e =>
    rw [es] at hC
    obtain ⟨h1, e1, t1, k1, k2, f1⟩ := hC
    have im1 := im.c gv.1 f1 (fun a k z1 z2 => by unfold xRw; omega)
    have ic1 : IC t q p bx 0 B (nI e.1) (nI e.2) h1 := ic_tp gv.1 ic f1 (fun a k z => by unfold xRw; omega) (fun a k z => by unfold lRw; omega) t1 (fun j hj => by omega) k1 k2
    have m := hM h1 im1
    rw [es] at m
    obtain ⟨h2, e2, t2, k3, k4, f2⟩ := m
    refine ⟨-1, h1, h2, e1, e2, t, q, p, bx, 0, B, _, _, bk, M, ⟨gv.1, gv.2.1, gv.2.2.1, gv.2.2.2.1, by omega⟩, ic1.m gv.1 f2 (fun a k z => by unfold xMR xRM xQ; omega) (fun a k z => by unfold lRM lG; omega), ?_⟩
    exact im_tp gv.1 im1 f2 (im1.1.fz f2 gv.1 (fun a z1 z2 => by unfold xMR xRM xQ; omega) (fun a k z1 z2 z3 z4 => by unfold xMR xRM xQ; omega) (fun k z3 z4 => by unfold xMR xRM xQ; omega) (fun k z3 z4 => by unfold xMR xRM xQ; omega) (fun a k z1 z2 z3 z4 => by unfold xMR xRM xQ; omega) (by unfold xMR xRM xQ; omega)) (im1.2.1.fz f2 (fun k hk => by unfold xMR xRM xQ; omega) (fun k _ => ⟨by unfold xMR xRM xQ; omega, by unfold xMR xRM xQ; omega⟩) (fun k _ => ⟨by unfold xMR xRM xQ; omega, by unfold xMR xRM xQ; omega⟩)) (fun a k z => by unfold xMR xRM xQ; omega) (by unfold xMR xRM xQ; omega) (by unfold xMR xRM xQ; omega) t2 (fun j hj => by omega) k3 k4
  | ok q2 =>
    rw [es] at hC
    obtain ⟨h1, e1, t1, k1, k2, rc, f1⟩ := hC
    have im1 := im.c gv.1 f1 (fun a k z1 z2 => by unfold xRo xRw; omega)
    have m := hM h1 im1
    rw [es] at m
    obtain ⟨h2, e2, t2, k3, k4, ⟨M2, rm⟩, f2⟩ := m
    have h16 := gv.1.2.2.1
    have ic1 : IC t q2 p bx 0 B (nI 0) (-1) h1 := by
      obtain ⟨c1, c2, c3, c4, c5, c6, c7, c8, c9⟩ := ic
      exact ⟨c1.fz f1 (fun a k z => by unfold xRo xRw; omega), rc, c3.fz f1 (fun a k z1 z2 => by unfold xRo xRw; omega), CB1.fz c4 f1 (fun a k z1 z2 => by unfold xRo xRw; omega), t1, fun j hj => by omega, k1, k2, fun r hr => by rw [f1.2 _ _ (by unfold lRo lRw; omega)]; exact c9 r hr⟩
    refine ⟨_, h1, h2, e1, e2, t, q2, p, bx, 0, B, nI 0, -1, bk, M2, ⟨gv.1, gv.2.1, gv.2.2.1, gv.2.2.2.1, by omega⟩, ic1.m gv.1 f2 (fun a k z => by unfold xMS xMR xRM xQ; omega) (fun a k z => by unfold lRM lG; omega), ?_⟩
    obtain ⟨c1, c2, c3, c4, c5, c6, c7, c8⟩ := im1
    exact ⟨c1.fz f2 gv.1 (fun a z1 z2 => by unfold xMS xMR xRM xQ; omega) (fun a k z1 z2 z3 z4 => by unfold xMS xMR xRM xQ; omega) (fun k z3 z4 => by unfold xMS xMR xRM xQ; omega) (fun k z3 z4 => by unfold xMS xMR xRM xQ; omega) (fun a k z1 z2 z3 z4 => by unfold xMS xMR xRM xQ; omega) (by unfold xMS xMR xRM xQ; omega), rm, c3.fz f2 (fun a k z1 z2 => by unfold xMS xMR xRM xQ; omega) (by unfold xMS xMR xRM xQ; omega) (by unfold xMS xMR xRM xQ; omega), c4.fz f2 (fun a k z1 z2 => by unfold xMS xMR xRM xQ; omega), t2, fun j hj => by omega, k3, k4⟩
