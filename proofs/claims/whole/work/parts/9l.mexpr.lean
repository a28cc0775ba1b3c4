/-! the model reads an expression as its parts say -/
def lvk (k : Nat) : Nat := if k = 0 then 1 else if k = 1 then 2 else if k = 2 then 4 else if k = 3 then 4 else if k = 4 then 5 else if k = 5 then 6 else 7
def rkk (k : Nat) : Nat := if k = 0 then 1 else if k = 1 then 2 else if k = 2 then 3 else if k = 3 then 4 else if k = 4 then 5 else if k = 5 then 6 else 7
def lpd (k : Nat) : Nat := if k = 0 then 5 else if k = 1 then 4 else if k = 2 then 3 else if k = 3 then 3 else if k = 4 then 2 else if k = 5 then 1 else 0
def lnk (k : Nat) : Nat := if k = 0 then 0 else if k = 1 then 1 else if k = 2 then 2 else if k = 3 then 2 else if k = 4 then 3 else if k = 5 then 4 else 5
def XT (k t : Nat) (Pl : Cd) : Prop := (k ≤ 5 → t ≠ 42) ∧ (k ≤ 4 → t ≠ 43 ∧ t ≠ 45) ∧ (k ≤ 3 → (t = 60 ∨ t = 61 ∨ t = 62) → cmpP Pl = true) ∧ (k ≤ 1 → t ≠ 21) ∧ (k = 0 → t ≠ 22)
def Ge (n : Nat) (X : Nat → Nat) (N bk P : Nat) (bar : Bool) (v : Int32) (i : Nat) (h : CH) (e : Nat × Nat) : Prop := ∃ c h', (∀ f, f_X12_e_L19 (f + c) v h = some ((), h')) ∧ Mf n e h' ∧ Mc n X bk P bar h' ∧ Fz xQ lG h h' ∧ c ≤ N + 2 - i
def Gb (n : Nat) (X : Nat → Nat) (N bk P : Nat) (bar : Bool) (k w : Nat) (x : Nat × Nat) (St m : Cd) (r : Gr) (pd m' : Cd) (h' : CH) : Prop := Mu (tks true n X) N r.1 h' ∧ Mc n X bk P bar h' ∧ Mp r.2.1 (w + nots pd) (pd ++ x :: St) m' h' ∧ flm pd m' = enc bar r.2.2 ++ m ∧ (∀ p ∈ pd, rkk k ≤ p.1 ∧ p.1 ≤ 6) ∧ pd.length ≤ lpd k + nots pd ∧ w + nots pd ≤ 7
def Go (n : Nat) (X : Nat → Nat) (N bk P : Nat) (bar : Bool) (k kx w : Nat) (x : Nat × Nat) (St m : Cd) (v : Int32) (i : Nat) (h : CH) (r : Gr) : Prop := ∃ pd m' c h', (∀ f, f_X12_e_L19 (f + c) v h = f_X12_e_L19 f (nI 0) h') ∧ Gb n X N bk P bar k w x St m r pd m' h' ∧ c ≤ r.1 - i ∧ XT kx (kC (tks true n X r.1)) (pd ++ x :: St) ∧ Fz xQ lG h h'
/-- what stands before a part -/
def Gh (n : Nat) (X : Nat → Nat) (N bk P : Nat) (bar : Bool) (k w i u : Nat) (x : Nat × Nat) (St m : Cd) (h : CH) : Prop := Mu (tks true n X) N i h ∧ Mc n X bk P bar h ∧ Mp u w (x :: St) m h ∧ (∀ p ∈ x :: St, p.1 < 9) ∧ btm (x :: St) ∧ (6 < x.1 ∨ x.1 < lvk k) ∧ (3 ≤ k → kC (tks true n X i) = 23 → 4 ≤ x.1 ∧ x.1 ≤ 6) ∧ u ≤ 40 ∧ w ≤ 7 ∧ (x :: St).length ≤ 1 + 6 * w + lnk k ∧ m.length ≤ 9 * u
def Gm (n : Nat) (X : Nat → Nat) (N bk P : Nat) (bar : Bool) (fu k w : Nat) : Prop := ∀ i u x St m h, Gh n X N bk P bar k w i u x St m h → match gS (tks true n X) bar P fu k w i u with
  | .error e => Ge n X N bk P bar (nI 1) i h e
  | .ok r => Go n X N bk P bar k k w x St m (nI 1) i h r
theorem e_u {n : Nat} {X : Nat → Nat} {N i u w : Nat} {x : Nat × Nat} {St m : Cd} {h : CH} (hu : Mu (tks true n X) N i h) (hp : Mp u w (x :: St) m h) (hl : (x :: St).length ≤ 90) (f : Nat) : f_X12_e_L19 (f + 1) (nI 1) h = cl (f_X12_unit h) fun v h' => f_X12_e_L19 f v h' := by
  conv => lhs; unfold f_X12_e_L19
  rw [m_good1 hu.2.1, clp_some, if_neg (by decide), hp.2.2.1, if_pos (by rw [uI_0lt (by omega), List.length_cons]; omega), jn_eq, if_neg (by decide)]
theorem e_b {n : Nat} {X : Nat → Nat} {N i u w : Nat} {Pl m : Cd} {h : CH} (hu : Mu (tks true n X) N i h) (hp : Mp u w Pl m h) (h0 : 0 < Pl.length) (hl : Pl.length ≤ 90) (f : Nat) : f_X12_e_L19 (f + 1) (nI 0) h = cl (f_X12_behindUnit h) fun v h' => f_X12_e_L19 f v h' := by
  conv => lhs; unfold f_X12_e_L19
  rw [m_good1 hu.2.1, clp_some, if_neg (by decide), hp.2.2.1, if_pos (by rw [uI_0lt (by omega)]; exact h0), jn_eq, if_pos (by decide)]
theorem e_f {n : Nat} {e : Nat × Nat} {h : CH} (c : Mf n e h) (v : Int32) (f : Nat) : f_X12_e_L19 (f + 1) v h = some ((), h) := by
  conv => lhs; unfold f_X12_e_L19
  rw [m_good0 c, clp_some, if_pos (by decide)]
theorem cmpP_app : ∀ (a : Cd) (y : Nat × Nat) (b : Cd), (∀ p ∈ a, p.1 = 5 ∨ p.1 = 6) → cmpP (a ++ y :: b) = cmpP (y :: b) := by
  intro a
  induction a with
  | nil => intro y b _; rfl
  | cons p a ih =>
    intro y b h
    show (if p.1 = 5 ∨ p.1 = 6 then cmpP (a ++ y :: b) else decide (p.1 = 4)) = _
    rw [if_pos (h p (List.mem_cons_self ..)), ih y b (fun q hq => h q (List.mem_cons_of_mem _ hq))]
/-- a fault in the part behind some steps -/
theorem Ge.pre {n : Nat} {X : Nat → Nat} {N bk P i j c : Nat} {bar : Bool} {v v2 : Int32} {h h2 : CH} {e : Nat × Nat} (g : Ge n X N bk P bar v2 j h2 e) (hc : ∀ f, f_X12_e_L19 (f + c) v h = f_X12_e_L19 f v2 h2) (hF : Fz xQ lG h h2) (hl : c ≤ j - i) (hij : i ≤ j) (hj : j ≤ N) : Ge n X N bk P bar v i h e := by
  obtain ⟨c2, h', k1, k2, k3, k4, k5⟩ := g
  refine ⟨c2 + c, h', fun f => ?_, k2, k3, hF.tr k4, by omega⟩
  rw [← Nat.add_assoc, hc, k1]
theorem Gh.c {n : Nat} {X : Nat → Nat} {N bk P k w i u : Nat} {bar : Bool} {x : Nat × Nat} {St m : Cd} {h : CH} (g : Gh n X N bk P bar k w i u x St m h) {k2 : Nat} (h1 : lvk k ≤ lvk k2) (h2 : lnk k ≤ lnk k2) (h3 : 3 ≤ k2 → 3 ≤ k ∨ kC (tks true n X i) ≠ 23) : Gh n X N bk P bar k2 w i u x St m h := by
  obtain ⟨g1, g2, g3, g4, g5, g6, g7, g8, g9, g10, g11⟩ := g
  exact ⟨g1, g2, g3, g4, g5, by omega, fun z1 z2 => by
    rcases h3 z1 with y | y
    · exact g7 y z2
    · exact absurd z2 y, g8, g9, by omega, g11⟩
theorem len_pd {pd : Cd} {x : Nat × Nat} {St : Cd} {k w : Nat} (h1 : pd.length ≤ lpd k + nots pd) (h2 : w + nots pd ≤ 7) (h3 : (x :: St).length ≤ 1 + 6 * w + lnk k) : (pd ++ x :: St).length ≤ 90 ∧ (x :: St).length < 90 := by
  have l1 : lpd k ≤ 5 := by unfold lpd; repeat' split
                            all_goals omega
  have l2 : lnk k ≤ 5 := by unfold lnk; repeat' split
                            all_goals omega
  rw [List.length_append]
  omega
set_option maxHeartbeats 4000000 in
theorem m_loop {n : Nat} {X : Nat → Nat} {N bk P w fu k k2 : Nat} {bar : Bool} {op : Nat → Option Nat} {x : Nat × Nat} {St m : Cd} (hB : TXN true n X N) (hG : Gm n X N bk P bar fu k2 w) (hw : w ≤ 7) (h9 : ∀ p ∈ x :: St, p.1 < 9) (hb : btm (x :: St)) (hx : 6 < x.1 ∨ x.1 < rkk k) (hlen : (x :: St).length ≤ 1 + 6 * w + lnk k) (hop : ∀ t a, op t = some a → rkH t = rkk k ∧ enS bar (a, 0) = (sgH t, 0)) (r1 : 0 < rkk k) (r2 : rkk k ≤ 6) (r3 : rkk k ≠ 3) (r4 : rkk k ≠ 4) (r5 : rkk k < lvk k2) (r6 : rkk k ≤ rkk k2) (r7 : lpd k2 + 1 ≤ lpd k) (r8 : lnk k + 1 ≤ lnk k2) (r9 : 3 ≤ k2 → 4 ≤ rkk k) : ∀ j r pd m' h1, Gb n X N bk P bar k w x St m r pd m' h1 → 41 ≤ j + r.2.1 → r.2.1 ≤ 40 → r.2.2.length + m.length ≤ 9 * r.2.1 → XT k2 (kC (tks true n X r.1)) (pd ++ x :: St) → match lpS (gS (tks true n X) bar P fu k2 w) op (tks true n X) j r with
    | .error e => Ge n X N bk P bar (nI 0) r.1 h1 e
    | .ok q => Go n X N bk P bar k k2 w x St m (nI 0) r.1 h1 q ∧ op (kC (tks true n X q.1)) = none ∧ r.1 ≤ q.1 := by
  intro j
  induction j with
  | zero => intro r pd m' h1 _ h2 h3; omega
  | succ j ih =>
    intro r pd m' h1 gb hj hr40 hrl hXT
    unfold lpS
    cases eo : op (kC (tks true n X r.1)) with
    | none => exact ⟨⟨pd, m', 0, h1, fun f => rfl, gb, by omega, hXT, Fz.rf⟩, eo, Nat.le_refl _⟩
    | some a =>
      obtain ⟨o1, o2⟩ := hop _ _ eo
      obtain ⟨b1, b2, b3, b4, b5, b6, b7⟩ := gb
      have ll := len_pd b6 b7 hlen
      have lf : pd.length + m'.length ≤ 9 * r.2.1 := by
        have := congrArg List.length b4
        rw [flm_len, List.length_append, enc_len] at this
        omega
      obtain ⟨h2, e2, l2, u2, c2, p2, f2⟩ := m_op hB b2 b1 b3 (by omega) (fun z => by omega) hb (fun p hp => by
        rcases List.mem_append.1 hp with z | z
        · have := b5 p z; omega
        · exact h9 p z) (by rw [o1]; exact hx) (fun p hp => by rw [o1]; exact ⟨(b5 p hp).1, (b5 p hp).2⟩) (by omega) (by omega) ll.1 ll.2
      rw [show w + nots pd - nots pd = w by omega, o1] at p2
      have s1 : ∀ f, f_X12_e_L19 (f + 1) (nI 0) h1 = f_X12_e_L19 f (nI 1) h2 := fun f => by rw [e_b b1 b3 (by rw [List.length_append, List.length_cons]; omega) ll.1, e2, cl_some]
      have gh : Gh n X N bk P bar k2 w (r.1 + 1) r.2.1 (rkk k, sgH (kC (tks true n X r.1))) (x :: St) (flm pd m') h2 := by
        refine ⟨u2, c2, p2, fun p hp => ?_, Or.inr hb, Or.inr r5, fun z _ => ⟨r9 z, r2⟩, hr40, hw, by rw [List.length_cons]; omega, ?_⟩
        · rcases List.mem_cons.1 hp with z | z
          · rw [z]; show rkk k < 9; omega
          · exact h9 p z
        · rw [flm_len]; omega
      have hg := hG _ _ _ _ _ _ gh
      have nr := hB.2.1.2.2.1
      show match bd (gS (tks true n X) bar P fu k2 w (r.1 + 1) r.2.1) _ with
        | .error e => Ge n X N bk P bar (nI 0) r.1 h1 e
        | .ok q => Go n X N bk P bar k k2 w x St m (nI 0) r.1 h1 q ∧ op (kC (tks true n X q.1)) = none ∧ r.1 ≤ q.1
      cases eg : gS (tks true n X) bar P fu k2 w (r.1 + 1) r.2.1 with
      | error e =>
        rw [eg] at hg
        exact Ge.pre hg s1 f2 (by omega) (by omega) l2
      | ok q =>
        rw [eg] at hg
        obtain ⟨pd2, m2, c, h3, s2, g2, l3, x3, f3⟩ := hg
        obtain ⟨d1, d2, d3, d4, d5, d6, d7⟩ := g2
        have bq := gS_B fu k2 w _ _ q hw eg
        have lq := gB_len bq (C := r.2.2 ++ m) (by rw [List.length_append]; omega)
        have na : nots (pd2 ++ [(rkk k, sgH (kC (tks true n X r.1)))]) = nots pd2 := by
          rw [nots_app]
          show nots pd2 + ((if rkk k = 3 then 1 else 0) + 0) = _
          rw [if_neg r3]
          omega
        have la : pd2 ++ (rkk k, sgH (kC (tks true n X r.1))) :: x :: St = (pd2 ++ [(rkk k, sgH (kC (tks true n X r.1)))]) ++ x :: St := by rw [List.append_assoc]; rfl
        rw [la] at d3 x3
        have gb2 : Gb n X N bk P bar k w x St m (q.1, q.2.1, (a, 0) :: (q.2.2 ++ r.2.2)) (pd2 ++ [(rkk k, sgH (kC (tks true n X r.1)))]) m2 h3 := by
          refine ⟨d1, d2, by rw [na]; exact d3, ?_, fun p hp => ?_, ?_, by rw [na]; exact d7⟩
          · rw [flm_app, d4, b4]
            show (sgH (kC (tks true n X r.1)), 0) :: (enc bar q.2.2 ++ (enc bar r.2.2 ++ m)) = enc bar ((a, 0) :: (q.2.2 ++ r.2.2)) ++ m
            rw [enc_cons, o2, enc_app, List.cons_append, List.append_assoc]
          · rcases List.mem_append.1 hp with z | z
            · have := d5 p z; omega
            · rw [List.mem_singleton.1 z]; exact ⟨Nat.le_refl _, r2⟩
          · rw [na, List.length_append]
            show pd2.length + 1 ≤ _
            omega
        have li := ih (q.1, q.2.1, (a, 0) :: (q.2.2 ++ r.2.2)) _ m2 h3 gb2 (by have := bq.2.1; show 41 ≤ j + q.2.1; omega) bq.2.2.1 (by
          rw [List.length_append, List.length_append] at lq
          show ((a, 0) :: (q.2.2 ++ r.2.2)).length + m.length ≤ 9 * q.2.1
          rw [List.length_cons, List.length_append]
          omega) x3
        have s3 : ∀ f, f_X12_e_L19 (f + (c + 1)) (nI 0) h1 = f_X12_e_L19 f (nI 0) h3 := fun f => by rw [← Nat.add_assoc, s1, s2]
        have lb := bq.1
        have lN := d1.1
        show match lpS (gS (tks true n X) bar P fu k2 w) op (tks true n X) j (q.1, q.2.1, (a, 0) :: (q.2.2 ++ r.2.2)) with
          | .error e => Ge n X N bk P bar (nI 0) r.1 h1 e
          | .ok q => Go n X N bk P bar k k2 w x St m (nI 0) r.1 h1 q ∧ op (kC (tks true n X q.1)) = none ∧ r.1 ≤ q.1
        cases el : lpS (gS (tks true n X) bar P fu k2 w) op (tks true n X) j (q.1, q.2.1, (a, 0) :: (q.2.2 ++ r.2.2)) with
        | error e =>
          rw [el] at li
          exact Ge.pre li s3 (f2.tr f3) (by show c + 1 ≤ q.1 - r.1; omega) (by show r.1 ≤ q.1; omega) lN
        | ok z =>
          rw [el] at li
          obtain ⟨⟨pd3, m3, c3, h4, s4, g4, l4, x4, f4⟩, on, oz⟩ := li
          have l4 : c3 ≤ z.1 - q.1 := l4
          have oz : q.1 ≤ z.1 := oz
          exact ⟨⟨pd3, m3, c3 + (c + 1), h4, fun f => by rw [← Nat.add_assoc, s3, s4], g4, by omega, x4, (f2.tr f3).tr f4⟩, on, by omega⟩
