/-! the model reads an expression: all parts -/
theorem Gb.k {n : Nat} {X : Nat → Nat} {N bk P k k2 w : Nat} {bar : Bool} {x : Nat × Nat} {St m pd m' : Cd} {r : Gr} {h' : CH} (g : Gb n X N bk P bar k2 w x St m r pd m' h') (h1 : rkk k ≤ rkk k2) (h2 : lpd k2 ≤ lpd k) : Gb n X N bk P bar k w x St m r pd m' h' := by
  obtain ⟨b1, b2, b3, b4, b5, b6, b7⟩ := g
  exact ⟨b1, b2, b3, b4, fun p hp => ⟨Nat.le_trans h1 (b5 p hp).1, (b5 p hp).2⟩, by omega, b7⟩
set_option maxHeartbeats 4000000 in
theorem m_lev {n : Nat} {X : Nat → Nat} {N bk P w fu k k2 : Nat} {bar : Bool} {op : Nat → Option Nat} (hB : TXN true n X N) (hG : Gm n X N bk P bar fu k2 w) (hw : w ≤ 7) (hop : ∀ t a, op t = some a → rkH t = rkk k ∧ enS bar (a, 0) = (sgH t, 0)) (r1 : 0 < rkk k) (r2 : rkk k ≤ 6) (r3 : rkk k ≠ 3) (r4 : rkk k ≠ 4) (r5 : rkk k < lvk k2) (r6 : rkk k ≤ rkk k2) (r7 : lpd k2 + 1 ≤ lpd k) (r8 : lnk k + 1 ≤ lnk k2) (r9 : 3 ≤ k2 → 4 ≤ rkk k ∧ 3 ≤ k) (r10 : lvk k = rkk k) (hX : ∀ t Pl, XT k2 t Pl → op t = none → XT k t Pl) {i u : Nat} {x : Nat × Nat} {St m : Cd} {h : CH} (gh : Gh n X N bk P bar k w i u x St m h) : match bd (gS (tks true n X) bar P fu k2 w i u) (fun r => lpS (gS (tks true n X) bar P fu k2 w) op (tks true n X) 40 r) with
    | .error e => Ge n X N bk P bar (nI 1) i h e
    | .ok r => Go n X N bk P bar k k w x St m (nI 1) i h r := by
  have hg := hG _ _ _ _ _ _ (gh.c (k2 := k2) (by omega) (by omega) (fun z => Or.inl (r9 z).2))
  obtain ⟨g1, g2, g3, g4, g5, g6, g7, g8, g9, g10, g11⟩ := gh
  cases eg : gS (tks true n X) bar P fu k2 w i u with
  | error e => rw [eg] at hg; exact hg
  | ok r =>
    rw [eg] at hg
    obtain ⟨pd, m', c, h1, s1, gb, l1, xt, f1⟩ := hg
    have br := gS_B fu k2 w _ _ r hw eg
    have lr := gB_len br (C := m) g11
    rw [List.length_append] at lr
    have li := m_loop (k := k) (x := x) (St := St) (m := m) hB hG hw g4 g5 (by omega) g10 hop r1 r2 r3 r4 r5 r6 r7 r8 (fun z => (r9 z).1) 40 r pd m' h1 (gb.k r6 (by omega)) (by have := br.2.1; omega) br.2.2.1 (by omega) xt
    have lb := br.1
    have lN := gb.1.1
    show match lpS (gS (tks true n X) bar P fu k2 w) op (tks true n X) 40 r with
      | .error e => Ge n X N bk P bar (nI 1) i h e
      | .ok r => Go n X N bk P bar k k w x St m (nI 1) i h r
    cases el : lpS (gS (tks true n X) bar P fu k2 w) op (tks true n X) 40 r with
    | error e =>
      rw [el] at li
      exact Ge.pre li s1 f1 l1 (by omega) lN
    | ok z =>
      rw [el] at li
      obtain ⟨⟨pd3, m3, c3, h4, s4, g4', l4, x4, f4⟩, on, oz⟩ := li
      exact ⟨pd3, m3, c3 + c, h4, fun f => by rw [← Nat.add_assoc, s1, s4], g4', by omega, hX _ _ x4 on, f1.tr f4⟩
theorem vl_wc {bar : Bool} {t : Nat} (h20 : t ≠ 20) : match vlH bar t with
    | none => wcH bar t = 0
    | some v => wcH bar t ≠ 0 ∧ wcH bar t ≠ 97 ∧ enS bar (1, v) = (wcH bar t, 0) := by
  unfold vlH wcH
  cases bar with
  | true =>
    rw [if_pos rfl, if_pos rfl]
    by_cases c1 : t = 2
    · rw [if_pos c1, if_neg (by omega), if_pos c1]; exact ⟨by omega, by omega, rfl⟩
    rw [if_neg c1]
    by_cases c2 : t = 13
    · rw [if_pos c2, if_pos c2]; exact ⟨by omega, by omega, rfl⟩
    rw [if_neg c2]
    by_cases c3 : t = 14
    · rw [if_pos c3, if_neg c2, if_neg c1, if_pos c3]; exact ⟨by omega, by omega, rfl⟩
    rw [if_neg c3]
    by_cases c4 : t = 15
    · rw [if_pos c4, if_neg c2, if_neg c1, if_neg c3, if_pos c4]; exact ⟨by omega, by omega, rfl⟩
    rw [if_neg c4, if_neg c2, if_neg c1, if_neg c3, if_neg c4]
  | false =>
    rw [if_neg (show ¬ (false = true) by decide), if_neg (show ¬ (false = true) by decide)]
    by_cases c1 : t = 16
    · rw [if_pos c1, if_pos c1]; exact ⟨by omega, by omega, rfl⟩
    rw [if_neg c1]
    by_cases c2 : t = 17
    · rw [if_pos c2, if_neg c1, if_pos c2]; exact ⟨by omega, by omega, rfl⟩
    rw [if_neg c2]
    by_cases c3 : t = 18
    · rw [if_pos c3, if_neg c1, if_neg c2, if_pos c3]; exact ⟨by omega, by omega, rfl⟩
    rw [if_neg c3]
    by_cases c4 : t = 19
    · rw [if_pos c4, if_neg c1, if_neg c2, if_neg c3, if_pos c4]; exact ⟨by omega, by omega, rfl⟩
    rw [if_neg c4, if_neg c1, if_neg c2, if_neg c3, if_neg c4, if_neg h20]
theorem wc_23 (bar : Bool) : wcH bar 25 = 0 ∧ wcH bar 40 = 0 ∧ wcH true 20 = 0 := by cases bar <;> exact ⟨rfl, rfl, rfl⟩
theorem rl_ok {t a : Nat} (bar : Bool) (h : rlH t = some a) : rkH t = 4 ∧ enS bar (a, 0) = (sgH t, 0) ∧ 60 ≤ t := by
  unfold rlH at h
  split at h
  · rename_i z; cases h; subst z; exact ⟨rfl, rfl, by omega⟩
  · split at h
    · rename_i z; cases h; subst z; exact ⟨rfl, rfl, by omega⟩
    · split at h
      · rename_i z; cases h; subst z; exact ⟨rfl, rfl, by omega⟩
      · cases h
theorem rl_no {t : Nat} (h : rlH t = none) : t ≠ 60 ∧ t ≠ 61 ∧ t ≠ 62 := by
  unfold rlH at h
  split at h
  · cases h
  · split at h
    · cases h
    · split at h
      · cases h
      · rename_i z1 z2 z3; exact ⟨z1, z2, z3⟩
/-- a unit that is refused -/
theorem m_unE {n : Nat} {X : Nat → Nat} {N i bk P u w : Nat} {bar : Bool} {x : Nat × Nat} {St m : Cd} {h : CH} (hB : TXN true n X N) (gh : Gh n X N bk P bar 6 w i u x St m h) (hbad : (kC (tks true n X i) = 23 ∧ 4 ≤ x.1 ∧ x.1 ≤ 6) ∨ (kC (tks true n X i) ≠ 23 ∧ (u = 40 ∨ (wcH bar (kC (tks true n X i)) = 0 ∧ kC (tks true n X i) ≠ 25 ∧ kC (tks true n X i) ≠ 40) ∨ (kC (tks true n X i) = 40 ∧ w = 7)))) : Ge n X N bk P bar (nI 1) i h (flK (tks true n X) i 2, kS (tks true n X i)) := by
  obtain ⟨g1, g2, g3, g4, g5, g6, g7, g8, g9, g10, g11⟩ := gh
  have hl : (x :: St).length < 90 := by
    have : lnk 6 = 5 := rfl
    omega
  obtain ⟨h', e1, e2, e3, e4⟩ := m_unitB hB g2 g1 g3 (g4 x (List.mem_cons_self ..)) g8 g9 hl (Or.inr hbad)
  have := g1.1
  refine ⟨2, h', fun f => ?_, e2, e3, e4, by omega⟩
  rw [show f + 2 = (f + 1) + 1 from rfl, e_u g1 g3 (by omega), e1, cl_some, e_f e2]
set_option maxHeartbeats 4000000 in
theorem m_gm {n : Nat} {X : Nat → Nat} {N bk P : Nat} {bar : Bool} (hB : TXN true n X N) (hP1 : 1 ≤ P) (hP : P ≤ 8) : ∀ fu k w, k ≤ 6 → w ≤ 7 → 8 * (7 - w) + (8 - k) ≤ fu → Gm n X N bk P bar fu k w := by
  intro fu
  induction fu using Nat.strongRecOn with
  | _ fu ih =>
    intro k w hk hw hf i u x St m h gh
    obtain ⟨fu, rfl⟩ : ∃ y, fu = y + 1 := ⟨fu - 1, by omega⟩
    unfold gS
    by_cases k0 : k = 0
    · subst k0
      rw [if_pos rfl]
      refine m_lev hB (ih fu (by omega) 1 w (by omega) hw (by omega)) hw (fun t a e => ?_) (by decide) (by decide) (by decide) (by decide) (by decide) (by decide) (by decide) (by decide) (fun z => by omega) rfl (fun t Pl hx ho => ?_) gh
      · unfold opE at e
        split at e
        · rename_i z; cases e; subst z; exact ⟨rfl, rfl⟩
        · cases e
      · unfold opE at ho
        split at ho
        · cases ho
        · rename_i z
          exact ⟨fun _ => hx.1 (by omega), fun _ => hx.2.1 (by omega), fun _ => hx.2.2.1 (by omega), fun _ => hx.2.2.2.1 (by omega), fun _ => z⟩
    rw [if_neg k0]
    by_cases k1 : k = 1
    · subst k1
      rw [if_pos rfl]
      refine m_lev hB (ih fu (by omega) 2 w (by omega) hw (by omega)) hw (fun t a e => ?_) (by decide) (by decide) (by decide) (by decide) (by decide) (by decide) (by decide) (by decide) (fun z => by omega) rfl (fun t Pl hx ho => ?_) gh
      · unfold opB at e
        split at e
        · rename_i z; cases e; subst z; exact ⟨rfl, rfl⟩
        · cases e
      · unfold opB at ho
        split at ho
        · cases ho
        · rename_i z
          exact ⟨fun _ => hx.1 (by omega), fun _ => hx.2.1 (by omega), fun _ => hx.2.2.1 (by omega), fun _ => z, fun z => by omega⟩
    rw [if_neg k1]
    by_cases k2 : k = 2
    · subst k2
      rw [if_pos rfl]
      by_cases c : kC (tks true n X i) = 23
      · rw [if_pos c]
        obtain ⟨g1, g2, g3, g4, g5, g6, g7, g8, g9, g10, g11⟩ := id gh
        have g6 : 6 < x.1 ∨ x.1 < 4 := g6
        have g10 : (x :: St).length ≤ 1 + 6 * w + 2 := g10
        have hl : (x :: St).length < 90 := by omega
        by_cases cw : 6 < w
        · rw [if_pos cw]
          obtain ⟨h', e1, e2, e3, e4⟩ := m_unitB hB g2 g1 g3 (g4 x (List.mem_cons_self ..)) g8 g9 hl (Or.inl ⟨c, by omega, by omega⟩)
          have := g1.1
          refine ⟨2, h', fun f => ?_, e2, e3, e4, by omega⟩
          rw [show f + 2 = (f + 1) + 1 from rfl, e_u g1 g3 (by omega), e1, cl_some, e_f e2]
        · rw [if_neg cw]
          obtain ⟨h2, e1, li, u2, c2, p2, f2⟩ := m_unitN hB g2 g1 g3 (g4 x (List.mem_cons_self ..)) g8 g9 hl c (by omega) (by omega)
          have s1 : ∀ f, f_X12_e_L19 (f + 1) (nI 1) h = f_X12_e_L19 f (nI 1) h2 := fun f => by rw [e_u g1 g3 (by omega), e1, cl_some]
          have hg := ih fu (by omega) 2 (w + 1) (by omega) (by omega) (by omega) (i + 1) u (3, 126) (x :: St) m h2 ⟨u2, c2, p2, fun p hp => by
            rcases List.mem_cons.1 hp with z | z
            · rw [z]; show 3 < 9; omega
            · exact g4 p z, Or.inr g5, Or.inr (by decide), fun z => by omega, g8, by omega, by rw [List.length_cons]; show _ ≤ 1 + 6 * (w + 1) + 2; omega, g11⟩
          cases eg : gS (tks true n X) bar P fu 2 (w + 1) (i + 1) u with
          | error e =>
            rw [eg] at hg
            exact Ge.pre hg s1 f2 (by omega) (by omega) li
          | ok r =>
            rw [eg] at hg
            obtain ⟨pd, m', c, h3, s3, gb, l3, xt, f3⟩ := hg
            obtain ⟨b1, b2, b3, b4, b5, b6, b7⟩ := gb
            have br := gS_B fu 2 (w + 1) _ _ r (by omega) eg
            have lb := br.1
            have na : nots (pd ++ [(3, 126)]) = nots pd + 1 := by rw [nots_app]; rfl
            have la : pd ++ (3, 126) :: x :: St = (pd ++ [(3, 126)]) ++ x :: St := by rw [List.append_assoc]; rfl
            rw [la] at b3 xt
            refine ⟨pd ++ [(3, 126)], m', c + 1, h3, fun f => by rw [← Nat.add_assoc, s1, s3], ⟨b1, b2, by rw [na, show w + (nots pd + 1) = w + 1 + nots pd by omega]; exact b3, ?_, fun p hp => ?_, ?_, by rw [na]; omega⟩, by show c + 1 ≤ r.1 - i; omega, xt, f2.tr f3⟩
            · rw [flm_app, b4]
              rfl
            · rcases List.mem_append.1 hp with z | z
              · exact b5 p z
              · rw [List.mem_singleton.1 z]; exact ⟨by decide, by decide⟩
            · rw [na, List.length_append]
              show pd.length + 1 ≤ _
              omega
      · rw [if_neg c]
        have hg := ih fu (by omega) 3 w (by omega) hw (by omega) i u x St m h (gh.c (by decide) (by decide) (fun _ => Or.inr c))
        cases eg : gS (tks true n X) bar P fu 3 w i u with
        | error e => rw [eg] at hg; exact hg
        | ok r =>
          rw [eg] at hg
          obtain ⟨pd, m', c, h3, s3, gb, l3, xt, f3⟩ := hg
          exact ⟨pd, m', c, h3, s3, gb.k (by decide) (by decide), l3, ⟨fun _ => xt.1 (by omega), fun _ => xt.2.1 (by omega), fun _ => xt.2.2.1 (by omega), fun z => by omega, fun z => by omega⟩, f3⟩
    rw [if_neg k2]
    by_cases k3 : k = 3
    · subst k3
      rw [if_pos rfl]
      have hG := ih fu (by omega) 4 w (by omega) hw (by omega)
      have hg := hG i u x St m h (gh.c (by decide) (by decide) (fun _ => Or.inl (by omega)))
      obtain ⟨g1, g2, g3, g4, g5, g6, g7, g8, g9, g10, g11⟩ := id gh
      have g6 : 6 < x.1 ∨ x.1 < 4 := g6
      cases eg : gS (tks true n X) bar P fu 4 w i u with
      | error e => rw [eg] at hg; exact hg
      | ok r =>
        rw [eg] at hg
        obtain ⟨pd, m', c, h3, s3, gb, l3, xt, f3⟩ := hg
        have br := gS_B fu 4 w _ _ r hw eg
        have lr := gB_len br (C := m) g11
        rw [List.length_append] at lr
        show match (match rlH (kC (tks true n X r.1)) with
          | none => .ok r
          | some a => bd (gS (tks true n X) bar P fu 4 w (r.1 + 1) r.2.1) fun q => .ok (q.1, q.2.1, (a, 0) :: (q.2.2 ++ r.2.2)) : Ex Gr) with
          | .error e => Ge n X N bk P bar (nI 1) i h e
          | .ok r => Go n X N bk P bar 3 3 w x St m (nI 1) i h r
        cases er : rlH (kC (tks true n X r.1)) with
        | none =>
          obtain ⟨n1, n2, n3⟩ := rl_no er
          exact ⟨pd, m', c, h3, s3, gb.k (by decide) (by decide), l3, ⟨fun _ => xt.1 (by omega), fun _ => xt.2.1 (by omega), fun _ z => by omega, fun z => by omega, fun z => by omega⟩, f3⟩
        | some a =>
          obtain ⟨o1, o2, o3⟩ := rl_ok bar er
          obtain ⟨b1, b2, b3, b4, b5, b6, b7⟩ := gb
          have b5 : ∀ p ∈ pd, 5 ≤ p.1 ∧ p.1 ≤ 6 := b5
          have b6 : pd.length ≤ 2 + nots pd := b6
          have g10 : (x :: St).length ≤ 1 + 6 * w + 2 := g10
          have lf : pd.length + m'.length ≤ 9 * r.2.1 := by
            have := congrArg List.length b4
            rw [flm_len, List.length_append, enc_len] at this
            omega
          have l90 : (pd ++ x :: St).length ≤ 90 := by rw [List.length_append]; omega
          have r40 := br.2.2.1
          obtain ⟨h2, e2, l2, u2, c2, p2, f2⟩ := m_op hB b2 b1 b3 (by omega) (fun _ => by
            rw [cmpP_app pd x St (fun p hp => by have := b5 p hp; omega)]
            show (if x.1 = 5 ∨ x.1 = 6 then cmpP St else decide (x.1 = 4)) = false
            rw [if_neg (by omega), decide_eq_false (by omega)]) g5 (fun p hp => by
            rcases List.mem_append.1 hp with z | z
            · have := b5 p z; omega
            · exact g4 p z) (by rw [o1]; exact g6) (fun p hp => by rw [o1]; have := b5 p hp; omega) (by omega) (by omega) l90 (by omega)
          rw [show w + nots pd - nots pd = w by omega, o1] at p2
          have s1 : ∀ f, f_X12_e_L19 (f + 1) (nI 0) h3 = f_X12_e_L19 f (nI 1) h2 := fun f => by rw [e_b b1 b3 (by rw [List.length_append, List.length_cons]; omega) l90, e2, cl_some]
          have hg2 := hG (r.1 + 1) r.2.1 (4, sgH (kC (tks true n X r.1))) (x :: St) (flm pd m') h2 ⟨u2, c2, p2, fun p hp => by
            rcases List.mem_cons.1 hp with z | z
            · rw [z]; show 4 < 9; omega
            · exact g4 p z, Or.inr g5, Or.inr (by show 4 < 5; omega), fun _ _ => ⟨by show 4 ≤ 4; omega, by show 4 ≤ 6; omega⟩, r40, hw, by rw [List.length_cons]; show _ ≤ 1 + 6 * w + 3; omega, by rw [flm_len]; omega⟩
          have lb := br.1
          have s4 : ∀ f, f_X12_e_L19 (f + (1 + c)) (nI 1) h = f_X12_e_L19 f (nI 1) h2 := fun f => by rw [← Nat.add_assoc, s3, s1]
          show match bd (gS (tks true n X) bar P fu 4 w (r.1 + 1) r.2.1) (fun q => (.ok (q.1, q.2.1, (a, 0) :: (q.2.2 ++ r.2.2)) : Ex Gr)) with
            | .error e => Ge n X N bk P bar (nI 1) i h e
            | .ok r => Go n X N bk P bar 3 3 w x St m (nI 1) i h r
          cases eq : gS (tks true n X) bar P fu 4 w (r.1 + 1) r.2.1 with
          | error e =>
            rw [eq] at hg2
            exact Ge.pre hg2 s4 (f3.tr f2) (by omega) (by omega) l2
          | ok q =>
            rw [eq] at hg2
            obtain ⟨pd2, m2, c2', h4, s5, gb2, l5, xt2, f5⟩ := hg2
            obtain ⟨d1, d2, d3, d4, d5, d6, d7⟩ := gb2
            have d5 : ∀ p ∈ pd2, 5 ≤ p.1 ∧ p.1 ≤ 6 := d5
            have d6 : pd2.length ≤ 2 + nots pd2 := d6
            have bq := gS_B fu 4 w _ _ q hw eq
            have lq := bq.1
            have na : nots (pd2 ++ [(4, sgH (kC (tks true n X r.1)))]) = nots pd2 := by rw [nots_app]; rfl
            have la : pd2 ++ (4, sgH (kC (tks true n X r.1))) :: x :: St = (pd2 ++ [(4, sgH (kC (tks true n X r.1)))]) ++ x :: St := by rw [List.append_assoc]; rfl
            have xc : cmpP (pd2 ++ (4, sgH (kC (tks true n X r.1))) :: x :: St) = true := by
              rw [cmpP_app pd2 _ _ (fun p hp => by have := d5 p hp; omega)]
              rfl
            rw [la] at d3 xt2 xc
            refine ⟨pd2 ++ [(4, sgH (kC (tks true n X r.1)))], m2, c2' + (1 + c), h4, fun f => by rw [← Nat.add_assoc, s4, s5], ⟨d1, d2, by rw [na]; exact d3, ?_, fun p hp => ?_, ?_, by rw [na]; exact d7⟩, by show c2' + (1 + c) ≤ q.1 - i; omega, ⟨fun _ => xt2.1 (by omega), fun _ => xt2.2.1 (by omega), fun _ _ => xc, fun z => by omega, fun z => by omega⟩, (f3.tr f2).tr f5⟩
            · rw [flm_app, d4, b4]
              show (sgH (kC (tks true n X r.1)), 0) :: (enc bar q.2.2 ++ (enc bar r.2.2 ++ m)) = enc bar ((a, 0) :: (q.2.2 ++ r.2.2)) ++ m
              rw [enc_cons, o2, enc_app, List.cons_append, List.append_assoc]
            · rcases List.mem_append.1 hp with z | z
              · have := d5 p z; exact ⟨by show 4 ≤ p.1; omega, this.2⟩
              · rw [List.mem_singleton.1 z]; exact ⟨by show 4 ≤ 4; omega, by show 4 ≤ 6; omega⟩
            · rw [na, List.length_append]
              show pd2.length + 1 ≤ 3 + nots pd2
              omega
    rw [if_neg k3]
    by_cases k4 : k = 4
    · subst k4
      rw [if_pos rfl]
      refine m_lev hB (ih fu (by omega) 5 w (by omega) hw (by omega)) hw (fun t a e => ?_) (by decide) (by decide) (by decide) (by decide) (by decide) (by decide) (by decide) (by decide) (fun z => by decide) rfl (fun t Pl hx ho => ?_) gh
      · unfold opS at e
        split at e
        · rename_i z; cases e; subst z; exact ⟨rfl, rfl⟩
        · split at e
          · rename_i z; cases e; subst z; exact ⟨rfl, rfl⟩
          · cases e
      · unfold opS at ho
        split at ho
        · cases ho
        · split at ho
          · cases ho
          · rename_i z1 z2
            exact ⟨fun _ => hx.1 (by omega), fun _ => ⟨z1, z2⟩, fun z => by omega, fun z => by omega, fun z => by omega⟩
    rw [if_neg k4]
    by_cases k5 : k = 5
    · subst k5
      rw [if_pos rfl]
      refine m_lev hB (ih fu (by omega) 6 w (by omega) hw (by omega)) hw (fun t a e => ?_) (by decide) (by decide) (by decide) (by decide) (by decide) (by decide) (by decide) (by decide) (fun z => by decide) rfl (fun t Pl hx ho => ?_) gh
      · unfold opT at e
        split at e
        · rename_i z; cases e; subst z; exact ⟨rfl, rfl⟩
        · cases e
      · unfold opT at ho
        split at ho
        · cases ho
        · rename_i z
          exact ⟨fun _ => z, fun z => by omega, fun z => by omega, fun z => by omega, fun z => by omega⟩
    rw [if_neg k5]
    have k6 : k = 6 := by omega
    subst k6
    rw [if_pos rfl]
    obtain ⟨g1, g2, g3, g4, g5, g6, g7, g8, g9, g10, g11⟩ := id gh
    have g10 : (x :: St).length ≤ 1 + 6 * w + 5 := g10
    have hl : (x :: St).length < 90 := by omega
    have gx := g4 x (List.mem_cons_self ..)
    have g7 : kC (tks true n X i) = 23 → 4 ≤ x.1 ∧ x.1 ≤ 6 := g7 (by omega)
    by_cases cu : 40 ≤ u
    · rw [if_pos cu]
      refine m_unE hB gh ?_
      by_cases c23 : kC (tks true n X i) = 23
      · exact Or.inl ⟨c23, g7 c23⟩
      · exact Or.inr ⟨c23, Or.inl (by omega)⟩
    rw [if_neg cu]
    by_cases c20 : kC (tks true n X i) = 20
    · rw [if_pos c20]
      cases hb : bar with
      | true =>
        subst hb
        rw [if_pos rfl]
        exact m_unE hB gh (Or.inr ⟨by omega, Or.inr (Or.inl ⟨by rw [c20]; rfl, by omega, by omega⟩)⟩)
      | false =>
        subst hb
        rw [if_neg (by decide)]
        obtain ⟨h', e1, e2, e3, e4⟩ := m_unitA hB g2 g1 g3 gx g8 g9 hl hP1 hP rfl c20 (by omega) (by omega)
        have s1 : ∀ f, f_X12_e_L19 (f + 1) (nI 1) h = f_X12_e_L19 f (nI 0) h' := fun f => by rw [e_u g1 g3 (by omega), e1, cl_some]
        cases es : sNm (tks true n X) (i + 1) 0 (P - 1) with
        | error e =>
          rw [es] at e4
          have := g1.1
          exact ⟨2, h', fun f => by rw [show f + 2 = (f + 1) + 1 from rfl, s1, e_f e4], e4, e2, e3, by omega⟩
        | ok v =>
          rw [es] at e4
          exact ⟨[], _, 1, h', s1, ⟨e4.1, e2, e4.2, by show (97, v) :: m = enS false (1, 4 + v) :: m; rw [show enS false (1, 4 + v) = (97, v) from by unfold enS; rw [if_neg (by omega), if_pos rfl, if_neg (by decide), if_neg (by show ¬ 4 + v = 0; omega), if_neg (by show ¬ 4 + v = 1; omega), if_neg (by show ¬ 4 + v = 2; omega), if_neg (by show ¬ 4 + v = 3; omega)]; show (97, 4 + v - 4) = (97, v); rw [show 4 + v - 4 = v by omega]], fun p hp => absurd hp List.not_mem_nil, Nat.zero_le _, g9⟩, by show 1 ≤ i + 2 - i; omega, ⟨fun z => by omega, fun z => by omega, fun z => by omega, fun z => by omega, fun z => by omega⟩, e3⟩
    rw [if_neg c20]
    by_cases c25 : kC (tks true n X i) = 25
    · rw [if_pos c25]
      have w0 : wcH bar (kC (tks true n X i)) = 0 := by rw [c25]; exact (wc_23 bar).1
      obtain ⟨h', e1, li, u1, c1, p1, f1⟩ := m_unitV hB g2 g1 g3 gx g8 g9 hl (by omega) (by omega) (Or.inl ⟨c25, w0⟩) (by unfold kLast; omega) (by omega) (by omega)
      rw [if_pos w0] at p1
      exact ⟨[], _, 1, h', fun f => by rw [e_u g1 g3 (by omega), e1, cl_some], ⟨u1, c1, p1, rfl, fun p hp => absurd hp List.not_mem_nil, Nat.zero_le _, g9⟩, by show 1 ≤ i + 1 - i; omega, ⟨fun z => by omega, fun z => by omega, fun z => by omega, fun z => by omega, fun z => by omega⟩, f1⟩
    rw [if_neg c25]
    by_cases c40 : kC (tks true n X i) = 40
    · rw [if_pos c40]
      obtain ⟨fu2, rfl⟩ : ∃ y, fu = y + 1 := ⟨fu - 1, by omega⟩
      unfold gS
      rw [if_neg (by omega), if_neg (by omega), if_neg (by omega), if_neg (by omega), if_neg (by omega), if_neg (by omega), if_neg (by omega)]
      by_cases cw : 6 < w
      · rw [if_pos cw]
        exact m_unE hB gh (Or.inr ⟨by omega, Or.inr (Or.inr ⟨c40, by omega⟩)⟩)
      rw [if_neg cw]
      obtain ⟨h2, e1, li, u2, c2, p2, f2⟩ := m_unitP hB g2 g1 g3 gx g8 g9 hl c40 (by omega) (by omega)
      have s1 : ∀ f, f_X12_e_L19 (f + 1) (nI 1) h = f_X12_e_L19 f (nI 1) h2 := fun f => by rw [e_u g1 g3 (by omega), e1, cl_some]
      have hg := ih fu2 (by omega) 0 (w + 1) (by omega) (by omega) (by omega) (i + 1) (u + 1) (7, 126) (x :: St) m h2 ⟨u2, c2, p2, fun p hp => by
        rcases List.mem_cons.1 hp with z | z
        · rw [z]; show 7 < 9; omega
        · exact g4 p z, Or.inr g5, Or.inl (by show 6 < 7; omega), fun z => by omega, by omega, by omega, by rw [List.length_cons]; show _ ≤ 1 + 6 * (w + 1) + 0; omega, by omega⟩
      cases eg : gS (tks true n X) bar P fu2 0 (w + 1) (i + 1) (u + 1) with
      | error e =>
        rw [eg] at hg
        exact Ge.pre hg s1 f2 (by omega) (by omega) li
      | ok r =>
        rw [eg] at hg
        obtain ⟨pd, m', c, h3, s3, gb, l3, xt, f3⟩ := hg
        obtain ⟨b1, b2, b3, b4, b5, b6, b7⟩ := gb
        have b6 : pd.length ≤ 5 + nots pd := b6
        have br := gS_B fu2 0 (w + 1) _ _ r (by omega) eg
        have lr := gB_len br (C := m) (by omega)
        have lb := br.1
        have r40 := br.2.2.1
        have lN := b1.1
        have s4 : ∀ f, f_X12_e_L19 (f + (c + 1)) (nI 1) h = f_X12_e_L19 f (nI 0) h3 := fun f => by rw [← Nat.add_assoc, s1, s3]
        have l90 : (pd ++ (7, 126) :: x :: St).length ≤ 90 := by rw [List.length_append, List.length_cons]; omega
        have lf : pd.length + m'.length ≤ 9 * r.2.1 := by
          have := congrArg List.length b4
          rw [flm_len, List.length_append, enc_len] at this
          rw [List.length_append] at lr
          omega
        have l0 : 0 < (pd ++ (7, 126) :: x :: St).length := by rw [List.length_append, List.length_cons]; omega
        show match bd (sTk (tks true n X) r.1 41) (fun j => (.ok (j, r.2.1, r.2.2) : Ex Gr)) with
          | .error e => Ge n X N bk P bar (nI 1) i h e
          | .ok r => Go n X N bk P bar 6 6 w x St m (nI 1) i h r
        have t9 : ∀ p ∈ pd ++ (7, 126) :: x :: St, p.1 < 9 := fun p hp => by
          rcases List.mem_append.1 hp with z | z
          · have := b5 p z; omega
          · rcases List.mem_cons.1 z with y | y
            · rw [y]; show 7 < 9; omega
            · exact g4 p y
        by_cases cr : kC (tks true n X r.1) = 60 ∨ kC (tks true n X r.1) = 61 ∨ kC (tks true n X r.1) = 62
        · have hcm := xt.2.2.1 (by omega) cr
          have hr4 : rkH (kC (tks true n X r.1)) = 4 := by rcases cr with z | z | z <;> rw [z] <;> rfl
          obtain ⟨h4, q1, q2, q3⟩ := m_cmpE hB b2 b1 b3 hr4 hcm (btm_app (Or.inr g5)) t9 l90 l0
          have es : sTk (tks true n X) r.1 41 = .error (flK (tks true n X) r.1 2, kS (tks true n X r.1)) := by unfold sTk; rw [if_neg (by omega)]
          rw [es]
          exact ⟨2 + (c + 1), h4, fun f => by rw [← Nat.add_assoc, s4, show f + 2 = (f + 1) + 1 from rfl, e_b b1 b3 l0 l90, q1, cl_some, e_f q2], q2, b2.q q3, (f2.tr f3).tr q3, by omega⟩
        · have hr0 : rkH (kC (tks true n X r.1)) = 0 := by
            have x1 := xt.1 (by omega)
            have x2 := xt.2.1 (by omega)
            have x3 := xt.2.2.2.1 (by omega)
            have x4 := xt.2.2.2.2 rfl
            unfold rkH
            rw [if_neg x3, if_neg x4, if_neg (fun z => cr (Or.inl z)), if_neg (fun z => cr (Or.inr (Or.inr z))), if_neg (fun z => cr (Or.inr (Or.inl z))), if_neg x2.1, if_neg x2.2, if_neg x1]
          obtain ⟨h4, q1, q2, q3, -, q4⟩ := m_clo hB b2 b1 b3 hr0 (Or.inl rfl) (fun p hp => (b5 p hp).2) (by omega) (fun _ => by omega) (by omega) l90
          obtain ⟨q5, q6⟩ := q4 rfl
          have s5 : ∀ f, f_X12_e_L19 (f + (1 + (c + 1))) (nI 1) h = f_X12_e_L19 f (nI 0) h4 := fun f => by rw [← Nat.add_assoc, s4, e_b b1 b3 l0 l90, q1, cl_some]
          cases es : sTk (tks true n X) r.1 41 with
          | error e =>
            rw [es] at q5
            have q5 : Mf n e h4 := q5
            exact ⟨1 + (1 + (c + 1)), h4, fun f => by rw [← Nat.add_assoc, s5, e_f q5], q5, q2, (f2.tr f3).tr q3, by omega⟩
          | ok j =>
            rw [es] at q5
            obtain ⟨ej, -⟩ := sTk_ok es
            subst ej
            rw [show w + 1 + nots pd - nots pd - 1 = w by omega] at q6
            exact ⟨[], _, 1 + (c + 1), h4, s5, ⟨q5, q2, q6, b4, fun p hp => absurd hp List.not_mem_nil, Nat.zero_le _, g9⟩, by show 1 + (c + 1) ≤ r.1 + 1 - i; omega, ⟨fun z => by omega, fun z => by omega, fun z => by omega, fun z => by omega, fun z => by omega⟩, (f2.tr f3).tr q3⟩
    rw [if_neg c40]
    have vw := vl_wc (bar := bar) c20
    cases ev : vlH bar (kC (tks true n X i)) with
    | none =>
      rw [ev] at vw
      refine m_unE hB gh ?_
      by_cases c23 : kC (tks true n X i) = 23
      · exact Or.inl ⟨c23, g7 c23⟩
      · exact Or.inr ⟨c23, Or.inr (Or.inl ⟨vw, c25, c40⟩)⟩
    | some v =>
      rw [ev] at vw
      obtain ⟨v1, v2, v3⟩ := vw
      have nl : ¬ kLast (tks true n X i) ∧ kC (tks true n X i) ≠ 23 := by
        constructor
        · intro z
          have : kC (tks true n X i) = 26 ∨ kC (tks true n X i) = 27 := z
          rcases this with y | y <;> rw [y] at v1 <;> cases bar <;> exact v1 rfl
        · intro y
          rw [y] at v1
          cases bar <;> exact v1 rfl
      obtain ⟨h', e1, li, u1, c1, p1, f1⟩ := m_unitV hB g2 g1 g3 gx g8 g9 hl nl.2 c40 (Or.inr ⟨v1, v2⟩) nl.1 (by omega) (by omega)
      rw [if_neg v1] at p1
      exact ⟨[], _, 1, h', fun f => by rw [e_u g1 g3 (by omega), e1, cl_some], ⟨u1, c1, p1, by show _ :: m = enS bar (1, v) :: m; rw [v3], fun p hp => absurd hp List.not_mem_nil, Nat.zero_le _, g9⟩, by show 1 ≤ i + 1 - i; omega, ⟨fun z => by omega, fun z => by omega, fun z => by omega, fun z => by omega, fun z => by omega⟩, f1⟩
