/-! the model behind a unit -/
def rkH (t : Nat) : Nat := if t = 21 then 2 else if t = 22 then 1 else if t = 60 then 4 else if t = 62 then 4 else if t = 61 then 4 else if t = 43 then 5 else if t = 45 then 5 else if t = 42 then 6 else 0
def sgH (t : Nat) : Nat := if t = 21 then 38 else if t = 22 then 124 else t
theorem m_rank {n : Nat} {X : Nat → Nat} {N i : Nat} {h : CH} (hB : TXN true n X N) (hL : Mx true n X h) (u : Mu (tks true n X) N i h) : f_X12_rankHere h = some (nI (rkH (kC (tks true n X i)))) := by
  have g : Mg (tks true n X) N n i (.ok () : Ex Unit) h := u
  obtain ⟨b1, e1, f1⟩ := m_isW (j := i) (h := h) hB.2.1 (fun _ g => k8_21 g) (by omega)
  obtain ⟨b2, e2, f2⟩ := m_isW (j := i) (h := h) hB.2.1 (fun _ g => k8_22 g) (by omega)
  obtain ⟨b3, e3, f3⟩ := m_is hB hL g (show 28 ≤ 60 by omega) (by omega)
  obtain ⟨b4, e4, f4⟩ := m_is hB hL g (show 28 ≤ 62 by omega) (by omega)
  obtain ⟨b5, e5, f5⟩ := m_is hB hL g (show 28 ≤ 61 by omega) (by omega)
  obtain ⟨b6, e6, f6⟩ := m_is hB hL g (show 28 ≤ 43 by omega) (by omega)
  obtain ⟨b7, e7, f7⟩ := m_is hB hL g (show 28 ≤ 45 by omega) (by omega)
  obtain ⟨b8, e8, f8⟩ := m_is hB hL g (show 28 ≤ 42 by omega) (by omega)
  unfold f_X12_rankHere rkH
  rw [e1, clp_some, ifB, f1 u]
  by_cases c1 : kC (tks true n X i) = 21
  · rw [if_pos (decide_eq_true c1), if_pos c1]
  rw [if_neg (by simp [c1]), if_neg c1, e2, clp_some, ifB, f2 u]
  by_cases c2 : kC (tks true n X i) = 22
  · rw [if_pos (decide_eq_true c2), if_pos c2]
  rw [if_neg (by simp [c2]), if_neg c2, e3, clp_some, ifB, f3 u]
  by_cases c3 : kC (tks true n X i) = 60
  · rw [if_pos (decide_eq_true c3), if_pos c3]
  rw [if_neg (by simp [c3]), if_neg c3, e4, clp_some, ifB, f4 u]
  by_cases c4 : kC (tks true n X i) = 62
  · rw [if_pos (decide_eq_true c4), if_pos c4]
  rw [if_neg (by simp [c4]), if_neg c4, e5, clp_some, ifB, f5 u]
  by_cases c5 : kC (tks true n X i) = 61
  · rw [if_pos (decide_eq_true c5), if_pos c5]
  rw [if_neg (by simp [c5]), if_neg c5, e6, clp_some, ifB, f6 u]
  by_cases c6 : kC (tks true n X i) = 43
  · rw [if_pos (decide_eq_true c6), if_pos c6]
  rw [if_neg (by simp [c6]), if_neg c6, e7, clp_some, ifB, f7 u]
  by_cases c7 : kC (tks true n X i) = 45
  · rw [if_pos (decide_eq_true c7), if_pos c7]
  rw [if_neg (by simp [c7]), if_neg c7, e8, clp_some, ifB, f8 u]
  by_cases c8 : kC (tks true n X i) = 42
  · rw [if_pos (decide_eq_true c8), if_pos c8]
  rw [if_neg (by simp [c8]), if_neg c8]
def cmpP : Cd → Bool
  | [] => false
  | x :: P => if x.1 = 5 ∨ x.1 = 6 then cmpP P else decide (x.1 = 4)
def btm : Cd → Prop
  | [] => False
  | x :: P => x.1 = 8 ∨ btm P
theorem btm_app {a b : Cd} (h : btm b) : btm (a ++ b) := by
  induction a with
  | nil => exact h
  | cons x a ih => exact Or.inr ih
theorem m_isC {h : CH} : ∀ Pl f, btm Pl → PLk Pl h → Pl.length ≤ 90 → (∀ p ∈ Pl, p.1 < 9) → Pl.length ≤ f → f_X12_isCompared_L7 h f (nI (Pl.length - 1)) = some (bI (cmpP Pl)) := by
  intro Pl
  induction Pl with
  | nil => intro f hb; exact hb.elim
  | cons x P ih =>
    intro f hb hp hl h9 hf
    rw [List.length_cons] at hl hf
    obtain ⟨f, rfl⟩ : ∃ y, f = y + 1 := ⟨f - 1, by omega⟩
    have hx := h9 x (List.mem_cons_self ..)
    unfold f_X12_isCompared_L7 cmpP
    rw [List.length_cons, show P.length + 1 - 1 = P.length by omega, rdA_nI (by omega) (by omega), hp.1, jn_eq, rdA_nI (by omega) (by omega), hp.1, rdA_nI (by omega) (by omega), hp.1]
    simp only [uI_inj (show x.1 < 2147483648 by omega) (show 5 < 2147483648 by omega), uI_inj (show x.1 < 2147483648 by omega) (show 6 < 2147483648 by omega), uI_inj (show x.1 < 2147483648 by omega) (show 4 < 2147483648 by omega)]
    by_cases c : x.1 = 5 ∨ x.1 = 6
    · have hb2 : btm P := by
        rcases hb with z | z
        · omega
        · exact z
      have hP : 0 < P.length := by
        cases P with
        | nil => exact hb2.elim
        | cons y P => rw [List.length_cons]; omega
      have e1 : nI P.length + -1 = nI (P.length - 1) := by
        have : nI P.length = nI (P.length - 1) + nI 1 := by rw [uI_add, show P.length - 1 + 1 = P.length by omega]
        rw [this, Int32.add_assoc, show nI 1 + -1 = 0 from by decide, Int32.add_zero]
      rw [if_pos c, e1]
      have r := ih f hb2 hp.2.2 (by omega) (fun p hp => h9 p (List.mem_cons_of_mem _ hp)) (by omega)
      by_cases c5 : x.1 = 5
      · rw [if_pos c5]; exact r
      · rw [if_neg c5, if_pos (by omega)]; exact r
    · rw [if_neg c, if_neg (by omega), if_neg (by omega)]
      by_cases c4 : x.1 = 4
      · rw [if_pos c4, decide_eq_true c4]; rfl
      · rw [if_neg c4, decide_eq_false c4]; rfl
theorem Mu.p {T : Nat → Tk} {N i : Nat} {S : Nat → Nat → Prop} {h h' : CH} (u : Mu T N i h) (hF : Fz S (fun _ _ => False) h h') (hs : ∀ k, 4 ≤ k → k ≤ 9 → ¬ S 151 k) : Mu T N i h' := u.fz hF hs id
def xPp (q k : Nat) : Prop := (q = 151 ∧ (k = 36 ∨ k = 38 ∨ k = 39)) ∨ ((q = 168 ∨ q = 169) ∧ 400 ≤ k)
theorem xPp_Q : ∀ a k, xPp a k → xQ a k := fun a k q => by unfold xPp at q; unfold xQ; omega
set_option maxHeartbeats 4000000 in
theorem m_op {n : Nat} {X : Nat → Nat} {N i bk P u w : Nat} {bar : Bool} {x : Nat × Nat} {St pd m : Cd} {h : CH} (hB : TXN true n X N) (hc : Mc n X bk P bar h) (hu : Mu (tks true n X) N i h) (hp : Mp u w (pd ++ x :: St) m h) (hr : 0 < rkH (kC (tks true n X i))) (h4 : rkH (kC (tks true n X i)) = 4 → cmpP (pd ++ x :: St) = false) (hb : btm (x :: St)) (h9 : ∀ p ∈ pd ++ x :: St, p.1 < 9) (hx : 6 < x.1 ∨ x.1 < rkH (kC (tks true n X i))) (hpd : ∀ p ∈ pd, rkH (kC (tks true n X i)) ≤ p.1 ∧ p.1 ≤ 6) (hw : nots pd ≤ w) (hm : pd.length + m.length ≤ 400) (hl : (pd ++ x :: St).length ≤ 90) (hl2 : (x :: St).length < 90) : ∃ h', f_X12_behindUnit h = some (nI 1, h') ∧ i + 1 ≤ N ∧ Mu (tks true n X) N (i + 1) h' ∧ Mc n X bk P bar h' ∧ Mp u (w - nots pd) ((rkH (kC (tks true n X i)), sgH (kC (tks true n X i))) :: x :: St) (flm pd m) h' ∧ Fz xQ lG h h' := by
  have hx9 : x.1 < 9 := h9 x (List.mem_append_right _ (List.mem_cons_self ..))
  have hr6 : rkH (kC (tks true n X i)) ≤ 6 := by
    unfold rkH
    repeat' split
    all_goals omega
  have e0 : f_X12_behindUnit h = f_X12_behindUnit_L23 (nI (rkH (kC (tks true n X i)))) FU h := by
    unfold f_X12_behindUnit
    rw [m_rank hB hc.1 hu, clp_some]
    by_cases c : rkH (kC (tks true n X i)) = 4
    · have ec : f_X12_isCompared h = some (bI (cmpP (pd ++ x :: St))) := by
        unfold f_X12_isCompared
        rw [hp.2.2.1, uI_sub (by rw [List.length_append, List.length_cons]; omega)]
        exact m_isC _ FU (btm_app hb) hp.2.2.2.1 hl h9 (by show _ ≤ 100000; omega)
      rw [if_pos (by rw [c]), ec, clp_some, h4 c, if_pos (by decide)]
    · rw [if_neg (by rw [uI_inj (by omega) (by omega)]; exact c)]
  rw [e0]
  obtain ⟨h1, e1, p1, f1⟩ := m_pop hr6 hx hx9 pd FU w m h hpd (by show _ < 100000; rw [List.length_append] at hl; omega) hw hm hl hp
  have u1 := hu.p f1 (fun k h1 h2 => by omega)
  have F1 : Fz xQ lG h h1 := f1.mono xPp_Q (fun _ _ q => q.elim)
  have c1 := hc.q F1
  rw [e1]
  have st : ∀ s, s = sgH (kC (tks true n X i)) → (¬ kLast (tks true n X i)) → ∃ h', (cl (f_X12_pushE (nI (rkH (kC (tks true n X i)))) (nI s) h1) fun _ h_11 => cl (f_X12_goOn h_11) fun _ h_12 => some (nI 1, h_12)) = some (nI 1, h') ∧ i + 1 ≤ N ∧ Mu (tks true n X) N (i + 1) h' ∧ Mc n X bk P bar h' ∧ Mp u (w - nots pd) ((rkH (kC (tks true n X i)), sgH (kC (tks true n X i))) :: x :: St) (flm pd m) h' ∧ Fz xQ lG h h' := by
    intro s hs nl
    obtain ⟨h2, e2, p2, f2⟩ := m_push (a := rkH (kC (tks true n X i))) (b := s) p1 hl2
    have F2 : Fz xQ lG h1 h2 := f2.mono (fun a k q => by unfold xQ; omega) (fun _ _ q => q.elim)
    have u2 := u1.p f2 (fun k h1 h2 => by omega)
    have c2 := c1.q F2
    obtain ⟨li, h3, e3, u3, L3, f3⟩ := m_next hB c2.1 u2 nl
    have F3 : Fz xQ lG h2 h3 := f3.mono xG_Q (fun _ _ q => q)
    refine ⟨h3, by rw [e2, cl_some, e3, cl_some], li, u3, c2.q F3, ?_, (F1.tr F2).tr F3⟩
    have := p2.g f3
    rw [hs] at this
    exact this
  unfold m_bT
  rw [if_pos (by rw [uI_0lt (by omega)]; exact hr), jn_eq]
  by_cases c2 : kC (tks true n X i) = 21
  · have r2 : rkH (kC (tks true n X i)) = 2 := by rw [c2]; rfl
    rw [if_pos (by rw [r2])]
    exact st 38 (by rw [c2]; rfl) (by unfold kLast; omega)
  by_cases k22 : kC (tks true n X i) = 22
  · have r1 : rkH (kC (tks true n X i)) = 1 := by rw [k22]; rfl
    rw [if_neg (by rw [r1]; decide), if_pos (by rw [r1])]
    exact st 124 (by rw [k22]; rfl) (by unfold kLast; omega)
  have r3 : 4 ≤ rkH (kC (tks true n X i)) ∧ 28 ≤ kC (tks true n X i) ∧ kC (tks true n X i) < 100 := by
    unfold rkH at hr ⊢
    rw [if_neg c2, if_neg k22] at hr ⊢
    split at hr
    · rename_i z; rw [if_pos z]; omega
    · rename_i z; rw [if_neg z]; split at hr
      · rename_i z; rw [if_pos z]; omega
      · rename_i z; rw [if_neg z]; split at hr
        · rename_i z; rw [if_pos z]; omega
        · rename_i z; rw [if_neg z]; split at hr
          · rename_i z; rw [if_pos z]; omega
          · rename_i z; rw [if_neg z]; split at hr
            · rename_i z; rw [if_pos z]; omega
            · rename_i z; rw [if_neg z]; split at hr
              · rename_i z; rw [if_pos z]; omega
              · omega
  rw [if_neg (by rw [uI_inj (by omega) (by omega)]; omega), if_neg (by rw [uI_inj (by omega) (by omega)]; omega), u1.2.2.2.1]
  have ks := (hB.2.1.2.2.2.2 i hu.1).2.1
  have hn := hB.1.1
  rw [m_sign hB.1 c1.1 (by omega), clp_some, show X (kS (tks true n X i)) = kC (tks true n X i) from tok_X r3.2.1]
  exact st _ (by unfold sgH; rw [if_neg c2, if_neg k22]) (by unfold kLast; omega)
theorem m_cmpE {n : Nat} {X : Nat → Nat} {N i bk P u w : Nat} {bar : Bool} {Pl m : Cd} {h : CH} (hB : TXN true n X N) (hc : Mc n X bk P bar h) (hu : Mu (tks true n X) N i h) (hp : Mp u w Pl m h) (hr : rkH (kC (tks true n X i)) = 4) (h4 : cmpP Pl = true) (hb : btm Pl) (h9 : ∀ p ∈ Pl, p.1 < 9) (hl : Pl.length ≤ 90) (h0 : 0 < Pl.length) : ∃ h', f_X12_behindUnit h = some (nI 1, h') ∧ Mf n (flK (tks true n X) i 2, kS (tks true n X i)) h' ∧ Fz xQ lG h h' := by
  unfold f_X12_behindUnit
  have ec : f_X12_isCompared h = some (bI (cmpP Pl)) := by
    unfold f_X12_isCompared
    rw [hp.2.2.1, uI_sub (by omega)]
    exact m_isC _ FU hb hp.2.2.2.1 hl h9 (by show _ ≤ 100000; omega)
  rw [m_rank hB hc.1 hu, clp_some, hr, if_pos rfl, ec, clp_some, h4, if_neg (by decide)]
  obtain ⟨h', g1, g2, g3⟩ := m_mis1 hB.2.1 hu
  exact ⟨h', by rw [g1, cl_some], g2, g3.mono xM_Q (fun _ _ q => q)⟩
set_option maxHeartbeats 4000000 in
theorem m_clo {n : Nat} {X : Nat → Nat} {N i bk P u w : Nat} {bar : Bool} {x : Nat × Nat} {St pd m : Cd} {h : CH} (hB : TXN true n X N) (hc : Mc n X bk P bar h) (hu : Mu (tks true n X) N i h) (hp : Mp u w (pd ++ x :: St) m h) (hr : rkH (kC (tks true n X i)) = 0) (hx : x.1 = 7 ∨ x.1 = 8) (hpd : ∀ p ∈ pd, p.1 ≤ 6) (hw : nots pd ≤ w) (hw7 : x.1 = 7 → nots pd + 1 ≤ w) (hm : pd.length + m.length ≤ 400) (hl : (pd ++ x :: St).length ≤ 90) : ∃ h', f_X12_behindUnit h = some (nI 0, h') ∧ Mc n X bk P bar h' ∧ Fz xQ lG h h' ∧ (x.1 = 8 → Mu (tks true n X) N i h' ∧ Mp u (w - nots pd) St (flm pd m) h') ∧ (x.1 = 7 → Mg (tks true n X) N n (i + 1) (sTk (tks true n X) i 41) h' ∧ Mp u (w - nots pd - 1) St (flm pd m) h') := by
  unfold f_X12_behindUnit
  rw [m_rank hB hc.1 hu, clp_some, hr, if_neg (by decide)]
  obtain ⟨h1, e1, p1, f1⟩ := m_pop (r := 0) (by omega) (by omega) (by omega) pd FU w m h (fun p hp => ⟨Nat.zero_le _, hpd p hp⟩) (by show _ < 100000; rw [List.length_append] at hl; omega) hw hm hl hp
  have u1 := hu.p f1 (fun k h1 h2 => by omega)
  have F1 : Fz xQ lG h h1 := f1.mono xPp_Q (fun _ _ q => q.elim)
  have c1 := hc.q F1
  rw [e1]
  unfold m_bT
  obtain ⟨d1, d2, d3, d4, d5, d6⟩ := p1
  have hl2 : St.length < 90 := by rw [List.length_append, List.length_cons] at hl; omega
  have d3 : h1.1 151 39 = nI (St.length + 1) := d3
  rw [if_neg (by decide), d3, uI_sub (by omega), show St.length + 1 - 1 = St.length by omega, wrF_eq, sI_at, rdA_nI (by omega) (by omega), sI_ne (by omega), d4.1]
  have g2 : Fz (fun a k => a = 151 ∧ k = 39) (fun _ _ => False) h1 (sI h1 151 39 (nI St.length)) := Fz.sI ⟨rfl, rfl⟩
  have F2 : Fz xQ lG h (sI h1 151 39 (nI St.length)) := F1.tr (g2.mono (fun a k q => by unfold xQ; omega) (fun _ _ q => q.elim))
  have p2 : Mp u (w - nots pd) St (flm pd m) (sI h1 151 39 (nI St.length)) := by
    refine ⟨?_, ?_, sI_at, d4.2.2.fz g2 (fun k _ => ⟨by omega, by omega⟩), ?_, d6.fz g2 (fun k _ _ => ⟨by omega, by omega⟩)⟩
    · rw [g2.1 _ _ (by omega)]; exact d1
    · rw [g2.1 _ _ (by omega)]; exact d2
    · rw [g2.1 _ _ (by omega)]; exact d5
  have u2 := u1.p g2 (fun k h1 h2 => by omega)
  have c2 := hc.q F2
  generalize sI h1 151 39 (nI St.length) = h2 at *
  by_cases c7 : x.1 = 7
  · have hw1 := hw7 c7
    rw [if_pos (by rw [c7]), p2.2.1, uI_sub (by omega), wrF_eq]
    have g3 : Fz (fun a k => a = 151 ∧ k = 38) (fun _ _ => False) h2 (sI h2 151 38 (nI (w - nots pd - 1))) := Fz.sI ⟨rfl, rfl⟩
    have F3 : Fz xQ lG h (sI h2 151 38 (nI (w - nots pd - 1))) := F2.tr (g3.mono (fun a k q => by unfold xQ; omega) (fun _ _ q => q.elim))
    have p3 : Mp u (w - nots pd - 1) St (flm pd m) (sI h2 151 38 (nI (w - nots pd - 1))) := by
      obtain ⟨d1, d2, d3, d4, d5, d6⟩ := p2
      refine ⟨?_, sI_at, ?_, d4.fz g3 (fun k _ => ⟨by omega, by omega⟩), ?_, d6.fz g3 (fun k _ _ => ⟨by omega, by omega⟩)⟩
      · rw [g3.1 _ _ (by omega)]; exact d1
      · rw [g3.1 _ _ (by omega)]; exact d3
      · rw [g3.1 _ _ (by omega)]; exact d5
    have u3 := u2.p g3 (fun k h1 h2 => by omega)
    have c3 := hc.q F3
    generalize sI h2 151 38 (nI (w - nots pd - 1)) = h3 at *
    have g : Mg (tks true n X) N n i (.ok () : Ex Unit) h3 := u3
    obtain ⟨b, b1, b2⟩ := m_is hB c3.1 g (show 28 ≤ 41 by omega) (by omega)
    obtain ⟨h4, k1, k2, k3, k4⟩ := m_must (k := 41) hB c3.1 g b2 (by omega) (by omega)
    have F4 := F3.tr (k4.mono xM_Q (fun _ _ q => q))
    refine ⟨h4, by rw [b1, clp_some, k1, cl_some], hc.q F4, F4, fun z => by omega, fun _ => ⟨?_, p3.m k4⟩⟩
    revert k2
    show Mg _ _ _ _ (bd (sTk _ _ _) _) _ → _
    cases sTk (tks true n X) i 41 with
    | error e => exact id
    | ok j => exact id
  · rw [if_neg (by rw [uI_inj (by omega) (by omega)]; exact c7)]
    exact ⟨h2, rfl, c2, F2, fun _ => ⟨u2, p2⟩, fun z => absurd z c7⟩
