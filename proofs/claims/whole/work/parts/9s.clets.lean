/-! the class's bar and signs say what the rules say -/
def Vbar (far kd y l : Int32) (i : Nat) : Int32 := if i = 0 then far else if i = 1 then kd else if i = 2 then y else l
def edS (g : Nat → Int32) : Nat → Int32
  | 0 => nI 0
  | n + 1 => edS g n + (if n = 0 then nI 0 else ab (g n - g (n - 1)))
def mxS (g : Nat → Int32) : Nat → Int32
  | 0 => nI 0
  | n + 1 => mx (mxS g n) (g n)
def mnS (g : Nat → Int32) : Nat → Int32
  | 0 => nI 99
  | n + 1 => mn (mnS g n) (g n)
def Vpic (P : Nat) (g : Nat → Int32) (i : Nat) : Int32 := if i = 0 then smI P g else if i = 1 then edS g P else if i = 2 then mxS g P else if i = 3 then mnS g P else g (i - 4)
def sgb (V : Nat → Int32) (q : Rq) : Nat → Int32
  | 0 => nI 0
  | k + 1 => if tpv (evR V (qk q k) []) = 0 then sgb V q k else sgb V q k ||| (nI 1 <<< (nI k &&& 31))
def RuQ (P : Nat) (q : Rq) : Ru := ((fun far kd y l => match qb q with
  | none => decide (far < nI 40)
  | some (_, c) => decide (¬ tpv (evR (Vbar far kd y l) c []) = 0)), fun g => sgb (Vpic P g) q (qn q))
theorem RC.fr {P : Nat} {q : Rq} {S : Nat → Nat → Prop} {h h' : CH} (r : RC P q h) (hF : Fr S h h') (hS : ∀ a k, 55 ≤ a → a ≤ 60 → ¬ S a k) : RC P q h' := by
  obtain ⟨r1, r2, r3, r4⟩ := r
  exact ⟨r1, r2.fz (Fz.fr (L := fun _ _ => False) hF) (fun k _ => hS _ _ (by omega) (by omega)) (fun k => hS _ _ (by omega) (by omega)) (fun k => hS _ _ (by omega) (by omega)) (fun _ => id), by rw [hF.1 _ _ (hS _ _ (by omega) (by omega))]; exact r3, r4.fr hF (fun k => hS _ _ (by omega) (by omega)) (fun k => hS _ _ (by omega) (by omega))⟩
theorem RC.len {P : Nat} {q : Rq} {h : CH} (r : RC P q h) : (qc q).length < 800 := by
  have := r.1.2.1
  have := r.1.2.2.1
  omega
set_option maxHeartbeats 4000000 in
theorem c_letsQ {P : Nat} {q : Rq} {h : CH} (hP1 : 1 ≤ P) (hP : P ≤ 8) (r : RC P q h) : CL (RuQ P q) h := by
  intro h1 hF far kd y l
  have r1 := r.fr hF (fun a k z1 z2 => by unfold TC; omega)
  unfold f_X5_lets_55
  rw [r1.2.1.2.1]
  show PO SR h1 _ (bI (match qb q with
    | none => decide (far < nI 40)
    | some (_, c) => decide (¬ tpv (evR (Vbar far kd y l) c []) = 0)))
  cases eb : qb q with
  | none =>
    rw [show (Option.none : Option (Nat × Cd)).isSome = false from rfl, if_pos (by decide)]
    show PO SR h1 _ (bI (decide (far < nI 40)))
    by_cases c : far < nI 40
    · rw [if_pos c, decide_eq_true c]; exact PO.mk Fr.rf
    · rw [if_neg c, decide_eq_false c]; exact PO.mk Fr.rf
  | some fc =>
    obtain ⟨f, c⟩ := fc
    rw [show (Option.some (f, c)).isSome = true from rfl, if_neg (by decide), wrA_nI (by omega) (by omega), wrA_nI (by omega) (by omega), wrA_nI (by omega) (by omega), wrA_nI (by omega) (by omega)]
    have g : Fr (fun a _ => a = 61) h1 (sI (sI (sI (sI h1 61 0 far) 61 1 kd) 61 2 y) 61 3 l) := (((Fr.sI (by omega)).tr (Fr.sI (by omega))).tr (Fr.sI (by omega))).tr (Fr.sI (by omega))
    have e0 : (sI (sI (sI (sI h1 61 0 far) 61 1 kd) 61 2 y) 61 3 l).1 61 0 = far := by rw [sI_ne (by omega), sI_ne (by omega), sI_ne (by omega), sI_at]
    have e1 : (sI (sI (sI (sI h1 61 0 far) 61 1 kd) 61 2 y) 61 3 l).1 61 1 = kd := by rw [sI_ne (by omega), sI_ne (by omega), sI_at]
    have e2 : (sI (sI (sI (sI h1 61 0 far) 61 1 kd) 61 2 y) 61 3 l).1 61 2 = y := by rw [sI_ne (by omega), sI_at]
    have e3 : (sI (sI (sI (sI h1 61 0 far) 61 1 kd) 61 2 y) 61 3 l).1 61 3 = l := sI_at
    generalize sI (sI (sI (sI h1 61 0 far) 61 1 kd) 61 2 y) 61 3 l = h2 at *
    have r2 := r1.fr g (fun a k z1 z2 => by omega)
    obtain ⟨s1, s2⟩ := r2.2.1.2.2.1 f c eb
    obtain ⟨v1, v2⟩ := r2.1.2.2.2.2 f c eb
    rw [s1, s2]
    have cr := c_res v1 r2.len hP1 hP v2 r2.2.2.2
    have ev : evR (h2.1 61) c [] = evR (Vbar far kd y l) c [] := evR_congr c [] (fun x hx c1 => by
      have := (((okc_1 hP1 v2).2.2 x hx).2 c1).1 rfl
      unfold Vbar
      by_cases z0 : x.2 = 0
      · rw [if_pos z0, z0]; exact e0
      rw [if_neg z0]
      by_cases z1 : x.2 = 1
      · rw [if_pos z1, z1]; exact e1
      rw [if_neg z1]
      by_cases z2 : x.2 = 2
      · rw [if_pos z2, z2]; exact e2
      rw [if_neg z2, show x.2 = 3 by omega]
      exact e3)
    rw [ev] at cr
    show PO SR h1 _ (bI (decide (¬ tpv (evR (Vbar far kd y l) c []) = 0)))
    refine PO.cl (cr.go (g.mono (fun a k q => Or.inl q)) (fun _ _ q => q)) (fun h3 f3 => ?_)
    by_cases c0 : tpv (evR (Vbar far kd y l) c []) = 0
    · rw [if_pos c0, decide_eq_false (fun z => z c0)]; exact PO.mk f3
    · rw [if_neg c0, decide_eq_true (p := ¬ tpv (evR (Vbar far kd y l) c []) = 0) c0]; exact PO.mk f3
def x61 (a _ : Nat) : Prop := a = 61
set_option maxHeartbeats 4000000 in
theorem c_lookL {P : Nat} (hP : P ≤ 8) {g : Nat → Int32} : ∀ k j f h, j + k = P → k < f → (∀ i, i < 8 → h.1 80 i = g i) → h.1 61 0 = smI j g → h.1 61 1 = edS g j → h.1 61 2 = mxS g j → h.1 61 3 = mnS g j → (∀ i, i < j → h.1 61 (4 + i) = g i) → ∃ h', f_X5_lookAt_55_L31 80 (nI P) f (nI j) h = some ((), h') ∧ h'.1 61 0 = smI P g ∧ h'.1 61 1 = edS g P ∧ h'.1 61 2 = mxS g P ∧ h'.1 61 3 = mnS g P ∧ (∀ i, i < P → h'.1 61 (4 + i) = g i) ∧ Fr x61 h h' := by
  intro k
  induction k with
  | zero =>
    intro j f h hj hf hg h0 h1 h2 h3 h4
    obtain ⟨f, rfl⟩ : ∃ y, f = y + 1 := ⟨f - 1, by omega⟩
    have e : j = P := by omega
    subst e
    refine ⟨h, ?_, h0, h1, h2, h3, h4, Fr.rf⟩
    unfold f_X5_lookAt_55_L31
    rw [if_neg (by rw [uI_lt (by omega) (by omega)]; omega)]
  | succ k ih =>
    intro j f h hj hf hg h0 h1 h2 h3 h4
    obtain ⟨f, rfl⟩ : ∃ y, f = y + 1 := ⟨f - 1, by omega⟩
    unfold f_X5_lookAt_55_L31
    rw [if_pos (by rw [uI_lt (by omega) (by omega)]; omega), if_pos (by rw [uI_lt (by omega) (by omega)]; omega), if_pos (by rw [uI_lt (by omega) (by omega)]; omega), rdA_nI (by omega) (by omega), hg j (by omega), rdA_nI (by omega) (by omega), h0, wrA_nI (by omega) (by omega)]
    have g1 : Fr x61 h (sI h 61 0 (smI j g + g j)) := Fr.sI rfl
    have a1 : (sI h 61 0 (smI j g + g j)).1 61 1 = edS g j := by rw [sI_ne (by omega)]; exact h1
    have a2 : (sI h 61 0 (smI j g + g j)).1 61 2 = mxS g j := by rw [sI_ne (by omega)]; exact h2
    have a3 : (sI h 61 0 (smI j g + g j)).1 61 3 = mnS g j := by rw [sI_ne (by omega)]; exact h3
    have a4 : ∀ i, i < j → (sI h 61 0 (smI j g + g j)).1 61 (4 + i) = g i := fun i hi => by rw [sI_ne (by omega)]; exact h4 i hi
    have a0 : (sI h 61 0 (smI j g + g j)).1 61 0 = smI (j + 1) g := sI_at
    have ag : ∀ i, i < 8 → (sI h 61 0 (smI j g + g j)).1 80 i = g i := fun i hi => by rw [sI_ne (by omega)]; exact hg i hi
    generalize sI h 61 0 (smI j g + g j) = q at *
    rw [rdA_nI (by omega) (by omega), jn_eq, uI_add, uI_add]
    have st : ∀ e, edS g j + e = edS g (j + 1) → ∃ h', (wrA q 61 12 (nI 1) (edS g j + e) fun h_16 => rdA h_16 61 12 (nI 2) fun v_17 => wrA h_16 61 12 (nI 2) (mx v_17 (g j)) fun h_18 => rdA h_18 61 12 (nI 3) fun v_19 => wrA h_18 61 12 (nI 3) (mn v_19 (g j)) fun h_20 => wrA h_20 61 12 (nI (4 + j)) (g j) fun h_21 => f_X5_lookAt_55_L31 80 (nI P) f (nI (j + 1)) h_21) = some ((), h') ∧ h'.1 61 0 = smI P g ∧ h'.1 61 1 = edS g P ∧ h'.1 61 2 = mxS g P ∧ h'.1 61 3 = mnS g P ∧ (∀ i, i < P → h'.1 61 (4 + i) = g i) ∧ Fr x61 h h' := by
      intro e he
      rw [wrA_nI (by omega) (by omega), rdA_nI (by omega) (by omega), sI_ne (by omega), a2, wrA_nI (by omega) (by omega), rdA_nI (by omega) (by omega), sI_ne (by omega), sI_ne (by omega), a3, wrA_nI (by omega) (by omega), wrA_nI (by omega) (by omega), he]
      have g2 : Fr x61 q (sI (sI (sI (sI q 61 1 (edS g (j + 1))) 61 2 (mx (mxS g j) (g j))) 61 3 (mn (mnS g j) (g j))) 61 (4 + j) (g j)) := (((Fr.sI (by unfold x61; rfl)).tr (Fr.sI (by unfold x61; rfl))).tr (Fr.sI (by unfold x61; rfl))).tr (Fr.sI (by unfold x61; rfl))
      obtain ⟨h', k1, k2, k3, k4, k5, k6, k7⟩ := ih (j + 1) f (sI (sI (sI (sI q 61 1 (edS g (j + 1))) 61 2 (mx (mxS g j) (g j))) 61 3 (mn (mnS g j) (g j))) 61 (4 + j) (g j)) (by omega) (by omega) (fun i hi => by rw [g2.1 _ _ (by unfold x61; omega)]; exact ag i hi) (by rw [sI_ne (by omega), sI_ne (by omega), sI_ne (by omega), sI_ne (by omega)]; exact a0) (by rw [sI_ne (by omega), sI_ne (by omega), sI_ne (by omega), sI_at]) (by rw [sI_ne (by omega), sI_ne (by omega), sI_at]; rfl) (by rw [sI_ne (by omega), sI_at]; rfl) (fun i hi => by
        by_cases z : i = j
        · rw [z, sI_at]
        · rw [sI_ne (by omega), sI_ne (by omega), sI_ne (by omega), sI_ne (by omega)]; exact a4 i (by omega))
      exact ⟨h', k1, k2, k3, k4, k5, k6, (g1.tr g2).tr k7⟩
    by_cases c : j = 0
    · rw [if_pos (by rw [c]; decide), a1]
      exact st (nI 0) (by show _ = edS g j + _; rw [if_pos c])
    · rw [if_neg (by rw [uI_eq0 (by omega)]; exact c), uI_sub (by omega), rdA_nI (by omega) (by omega), ag (j - 1) (by omega), a1]
      exact st _ (by show _ = edS g j + _; rw [if_neg c])
set_option maxHeartbeats 4000000 in
theorem c_shownBy {t : Tn} {q : Rq} {h : CH} (hV : VT t) (r : RC (tP t) q h) : CS t (RuQ (tP t) q) h := by
  intro h1 hF _
  have hP : tP t ≤ 8 := hV.2.1
  have hP1 : 1 ≤ tP t := by have := hV.1; omega
  have r1 := r.fr hF (fun a k z1 z2 => by unfold TC; omega)
  have h6 := r1.1.1
  unfold f_X5_shownBy_55 f_X5_lookAt_55
  rw [wrA_nI (by omega) (by omega), wrA_nI (by omega) (by omega), wrA_nI (by omega) (by omega), wrA_nI (by omega) (by omega)]
  have g1 : Fr x61 h1 (sI (sI (sI (sI h1 61 0 (nI 0)) 61 1 (nI 0)) 61 2 (nI 0)) 61 3 (nI 99)) := (((Fr.sI (by unfold x61; rfl)).tr (Fr.sI (by unfold x61; rfl))).tr (Fr.sI (by unfold x61; rfl))).tr (Fr.sI (by unfold x61; rfl))
  obtain ⟨h2, e2, b0, b1, b2, b3, b4, f2⟩ := c_lookL hP (g := h1.1 80) (tP t) 0 FU (sI (sI (sI (sI h1 61 0 (nI 0)) 61 1 (nI 0)) 61 2 (nI 0)) 61 3 (nI 99)) (by omega) (by show _ < 100000; omega) (fun i hi => by rw [g1.1 _ _ (by unfold x61; omega)]) (by rw [sI_ne (by omega), sI_ne (by omega), sI_ne (by omega), sI_at]; rfl) (by rw [sI_ne (by omega), sI_ne (by omega), sI_at]; rfl) (by rw [sI_ne (by omega), sI_at]; rfl) (by rw [sI_at]; rfl) (fun i hi => by omega)
  rw [e2, cl_some]
  have f12 : Fr SR h1 h2 := (g1.tr f2).mono (fun a k z => Or.inl z)
  have r2 := r1.fr f12 (fun a k z1 z2 => by unfold SR; omega)
  show PO SR h1 _ (sgb (Vpic (tP t) (h1.1 80)) q (qn q))
  have V2 : ∀ x : Nat × Nat, opn false (tP t) x → x.1 = 1 → h2.1 61 x.2 = Vpic (tP t) (h1.1 80) x.2 := fun x ho c1 => by
    have := (ho.2 c1).2
    unfold Vpic
    by_cases z0 : x.2 = 0
    · rw [if_pos z0, z0]; exact b0
    rw [if_neg z0]
    by_cases z1 : x.2 = 1
    · rw [if_pos z1, z1]; exact b1
    rw [if_neg z1]
    by_cases z2 : x.2 = 2
    · rw [if_pos z2, z2]; exact b2
    rw [if_neg z2]
    by_cases z3 : x.2 = 3
    · rw [if_pos z3, z3]; exact b3
    rw [if_neg z3]
    have := b4 (x.2 - 4) (by omega)
    rw [show 4 + (x.2 - 4) = x.2 by omega] at this
    exact this
  have lp : ∀ k j f h3, j + k = qn q → k < f → Fr SR h1 h3 → (∀ i, h3.1 61 i = h2.1 61 i) → PO SR h1 (f_X5_shownBy_55_L11 f (sgb (Vpic (tP t) (h1.1 80)) q j) (nI j) h3) (sgb (Vpic (tP t) (h1.1 80)) q (qn q)) := by
    intro k
    induction k with
    | zero =>
      intro j f h3 hj hf f3 _
      obtain ⟨f, rfl⟩ : ∃ y, f = y + 1 := ⟨f - 1, by omega⟩
      have r3 := r1.fr f3 (fun a k z1 z2 => by unfold SR; omega)
      unfold f_X5_shownBy_55_L11
      rw [r3.2.1.1, if_neg (by rw [uI_lt (by omega) (by omega)]; omega), show j = qn q by omega]
      exact PO.mk f3
    | succ k ih =>
      intro j f h3 hj hf f3 v3
      obtain ⟨f, rfl⟩ : ∃ y, f = y + 1 := ⟨f - 1, by omega⟩
      have r3 := r1.fr f3 (fun a k z1 z2 => by unfold SR; omega)
      unfold f_X5_shownBy_55_L11
      obtain ⟨w1, w2, w3⟩ := r3.2.1.2.2.2 j (by omega)
      obtain ⟨y1, y2, y3⟩ := r3.1.2.2.2.1 j (by omega)
      rw [r3.2.1.1, if_pos (by rw [uI_lt (by omega) (by omega)]; omega), if_pos (by rw [uI_lt (by omega) (by omega)]; omega), rdA_nI (by omega) (by omega), rdA_nI (by omega) (by omega), w2, w3]
      obtain ⟨post, pre, c1, c2⟩ := y2
      obtain ⟨o1, o2, o3⟩ := okc_1 hP1 y3
      obtain ⟨v, hv⟩ := o1 (h3.1 61) []
      have hcl : qf q j + (qk q j).length < 800 := by have := r3.len; rw [c1, List.length_append, List.length_append] at this; omega
      obtain ⟨h4, k1, k2⟩ := c_resL c1 c2 r3.len hP o2 o3 hv (qk q j).length (qk q j) [] FU h3 rfl (by rw [List.append_nil]) (by show (qk q j).length < 100000; omega) r3.2.2.2 (fun _ _ => rfl) trivial
      have er : f_X5_result_55 (nI (qf q j)) (nI (qf q j + (qk q j).length)) h3 = some (v, h4) := by
        unfold f_X5_result_55
        rw [mx0 _ (by omega)]
        exact k1
      have ev : evR (Vpic (tP t) (h1.1 80)) (qk q j) [] = [v] := by
        rw [← hv]
        exact (evR_congr _ _ (fun x hx c1 => by rw [v3]; exact V2 x (o3 x hx) c1)).symm
      rw [er, cl_some, jn_eq, uI_add]
      have nx := ih (j + 1) f h4 (by omega) (by omega) (f3.tr (k2.mono (fun a k z => Or.inr z))) (fun i => by rw [k2.1 _ _ (by unfold xS62; omega)]; exact v3 i)
      have eg : sgb (Vpic (tP t) (h1.1 80)) q (j + 1) = if v = 0 then sgb (Vpic (tP t) (h1.1 80)) q j else sgb (Vpic (tP t) (h1.1 80)) q j ||| (nI 1 <<< (nI j &&& 31)) := by
        show (if tpv (evR (Vpic (tP t) (h1.1 80)) (qk q j) []) = 0 then _ else _) = _
        rw [ev]
        rfl
      by_cases c0 : v = 0
      · rw [if_pos c0]
        rw [eg, if_pos c0] at nx
        exact nx
      · rw [if_neg c0]
        rw [eg, if_neg c0] at nx
        exact nx
  exact lp (qn q) 0 FU h2 (by omega) (by show _ < 100000; omega) f12 (fun _ => rfl)
