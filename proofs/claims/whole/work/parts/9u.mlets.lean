/-! the model's bar and signs say what the rules say -/
theorem RM.fr {P : Nat} {q : Rq} {M : Cd} {S : Nat → Nat → Prop} {h h' : CH} (r : RM P q M h) (hF : Fr S h h') (h1 : ∀ k, k = 40 ∨ k = 42 ∨ k = 44 ∨ k = 45 → ¬ S 151 k) (h2 : ∀ a k, a = 168 ∨ a = 169 ∨ a = 173 ∨ a = 174 → ¬ S a k) : RM P q M h' := by
  obtain ⟨r1, r2, r3, r4, r5, r6, r7, r8, r9, r10, r11⟩ := r
  exact ⟨r1, r2, r3, r4, by rw [hF.1 _ _ (h1 _ (by omega))]; exact r5, by rw [hF.1 _ _ (h1 _ (by omega))]; exact r6, by rw [hF.1 _ _ (h1 _ (by omega))]; exact r7, by rw [hF.1 _ _ (h1 _ (by omega))]; exact r8, r9.fr hF (fun k => h2 _ _ (by omega)) (fun k => h2 _ _ (by omega)), fun k hk => ⟨by rw [hF.1 _ _ (h2 _ _ (by omega))]; exact (r10 k hk).1, by rw [hF.1 _ _ (h2 _ _ (by omega))]; exact (r10 k hk).2⟩, fun f c e => ⟨by rw [hF.1 _ _ (h2 _ _ (by omega))]; exact (r11 f c e).1, by rw [hF.1 _ _ (h2 _ _ (by omega))]; exact (r11 f c e).2⟩⟩
theorem RM.len {P : Nat} {q : Rq} {M : Cd} {h : CH} (r : RM P q M h) : M.length ≤ 400 := by
  have := r.1.2.1
  have := r.1.2.2.1
  have := r.2.1
  omega
theorem wth_bar {P : Nat} {far kd y l : Int32} {h : CH} (h48 : h.1 151 48 = far) (h49 : h.1 151 49 = kd) (h50 : h.1 151 50 = y) (h51 : h.1 151 51 = l) : wth true P (Vbar far kd y l) h := by
  intro x ho c1 g gF
  have x4 := (ho.2 c1).1 rfl
  have e : ∀ k, g.1 151 k = h.1 151 k := fun k => gF.1 _ _ (by unfold x172; omega)
  have hx : x.2 = 0 ∨ x.2 = 1 ∨ x.2 = 2 ∨ x.2 = 3 := by omega
  unfold f_X12_worth Vbar
  rcases hx with z | z | z | z
  · rw [show (enS true x).1 = 102 from by unfold enS; rw [c1, z]; rfl, z, if_neg (show ¬ nI 102 = nI 101 by decide), if_pos rfl, e, h48, if_pos rfl]
  · rw [show (enS true x).1 = 107 from by unfold enS; rw [c1, z]; rfl, z, if_neg (show ¬ nI 107 = nI 101 by decide), if_neg (show ¬ nI 107 = nI 102 by decide), if_pos rfl, e, h49, if_neg (show ¬ 1 = 0 by decide), if_pos rfl]
  · rw [show (enS true x).1 = 121 from by unfold enS; rw [c1, z]; rfl, z, if_neg (show ¬ nI 121 = nI 101 by decide), if_neg (show ¬ nI 121 = nI 102 by decide), if_neg (show ¬ nI 121 = nI 107 by decide), if_neg (show ¬ nI 121 = nI 108 by decide), if_neg (show ¬ nI 121 = nI 109 by decide), if_neg (show ¬ nI 121 = nI 110 by decide), if_neg (show ¬ nI 121 = nI 113 by decide), if_neg (show ¬ nI 121 = nI 115 by decide), if_pos rfl, e, h50, if_neg (show ¬ 2 = 0 by decide), if_neg (show ¬ 2 = 1 by decide), if_pos rfl]
  · rw [show (enS true x).1 = 108 from by unfold enS; rw [c1, z]; rfl, z, if_neg (show ¬ nI 108 = nI 101 by decide), if_neg (show ¬ nI 108 = nI 102 by decide), if_neg (show ¬ nI 108 = nI 107 by decide), if_pos rfl, e, h51, if_neg (show ¬ 3 = 0 by decide), if_neg (show ¬ 3 = 1 by decide), if_neg (show ¬ 3 = 2 by decide)]
set_option maxHeartbeats 4000000 in
theorem m_letsQ {bk : Nat} {t : Tn} {q : Rq} {M : Cd} {h : CH} (hM : MT bk t h) (hV : VT t) (r : RM (tP t) q M h) : ML t (RuQ (tP t) q) h := by
  intro h1 hF f hf y l
  have hP1 : 1 ≤ tP t := by have := hV.1; omega
  have h16 := hV.2.2.1
  have hM1 := hM.tm hF
  have hb := hM.1
  have r1 := r.fr hF (fun k hk => by unfold TM; omega) (fun a k hk => by unfold TM; omega)
  unfold f_X12_isPass mpas
  rw [m_farLive y l hM1 hV hf, clp_some, wrF_eq]
  generalize farS (tP t) (lvz t f y l) (h1.1 176) = far
  have e26 : (sI h1 151 48 far).1 151 26 = nI bk := by rw [sI_ne (by omega)]; exact hM1.2.1
  rw [e26, uI_mul, uI_add, rdA_nI (by omega) (by omega), sI_ne (by omega), hM1.2.2.2.2.2.2.1 f hf, wrF_eq, wrF_eq, wrF_eq]
  have g : Fr SA h1 (sI (sI (sI (sI h1 151 48 far) 151 49 (tkd t f)) 151 50 y) 151 51 l) := (((Fr.sI (by unfold SA; omega)).tr (Fr.sI (by unfold SA; omega))).tr (Fr.sI (by unfold SA; omega))).tr (Fr.sI (by unfold SA; omega))
  have e48 : (sI (sI (sI (sI h1 151 48 far) 151 49 (tkd t f)) 151 50 y) 151 51 l).1 151 48 = far := by rw [sI_ne (by omega), sI_ne (by omega), sI_ne (by omega), sI_at]
  have e49 : (sI (sI (sI (sI h1 151 48 far) 151 49 (tkd t f)) 151 50 y) 151 51 l).1 151 49 = tkd t f := by rw [sI_ne (by omega), sI_ne (by omega), sI_at]
  have e50 : (sI (sI (sI (sI h1 151 48 far) 151 49 (tkd t f)) 151 50 y) 151 51 l).1 151 50 = y := by rw [sI_ne (by omega), sI_at]
  have e51 : (sI (sI (sI (sI h1 151 48 far) 151 49 (tkd t f)) 151 50 y) 151 51 l).1 151 51 = l := sI_at
  generalize sI (sI (sI (sI h1 151 48 far) 151 49 (tkd t f)) 151 50 y) 151 51 l = h2 at *
  have r2 := r1.fr g (fun k hk => by unfold SA; omega) (fun a k hk => by unfold SA; omega)
  rw [r2.2.2.2.2.2.1, e48]
  show PO SA h1 _ (bI (match qb q with
    | none => decide (far < nI 40)
    | some (_, c) => decide (¬ tpv (evR (Vbar far (tkd t f) y l) c []) = 0)))
  cases eb : qb q with
  | none =>
    rw [show (Option.none : Option (Nat × Cd)).isSome = false from rfl, if_pos (by decide)]
    show PO SA h1 _ (bI (decide (far < nI 40)))
    by_cases c : far < nI 40
    · rw [if_pos c, decide_eq_true c]; exact PO.mk g
    · rw [if_neg c, decide_eq_false c]; exact PO.mk g
  | some fc =>
    obtain ⟨fr, c⟩ := fc
    rw [show (Option.some (fr, c)).isSome = true from rfl, if_neg (by decide)]
    obtain ⟨w1, w2⟩ := r2.2.2.2.2.2.2.2.2.2.2 fr c eb
    obtain ⟨h3, k1, k2⟩ := m_holds (r := 0) (by omega) (r2.2.2.2.1 fr c eb) r2.len hP1 (r2.1.2.2.2.2 fr c eb).2 (wth_bar (P := tP t) e48 e49 e50 e51) r2.2.2.2.2.2.2.2.2.1 w1 w2
    rw [k1, cl_some, rz_b]
    exact PO.mk (g.tr (k2.mono (fun a k z => Or.inl z)))
theorem m_sumL {bk : Nat} {t : Tn} {g : CH} (hM : MT bk t g) (hV : VT t) : ∀ k j f, j + k = tP t → k < f → f_X12_sumOf_L4 g f (smI j (g.1 176)) (nI j) = some (smI (tP t) (g.1 176)) := by
  have h8 := hV.2.1
  intro k
  induction k with
  | zero =>
    intro j f hj hf
    obtain ⟨f, rfl⟩ : ∃ y, f = y + 1 := ⟨f - 1, by omega⟩
    unfold f_X12_sumOf_L4
    rw [m_pointMany hM, clp_some, if_neg (by rw [uI_lt (by omega) (by omega)]; omega), show j = tP t by omega]
  | succ k ih =>
    intro j f hj hf
    obtain ⟨f, rfl⟩ : ∃ y, f = y + 1 := ⟨f - 1, by omega⟩
    unfold f_X12_sumOf_L4
    rw [m_pointMany hM, clp_some, if_pos (by rw [uI_lt (by omega) (by omega)]; omega), rdA_nI (by omega) (by omega), uI_add]
    exact ih (j + 1) f (by omega) (by omega)
theorem m_edgeL {bk : Nat} {t : Tn} {g : CH} (hM : MT bk t g) (hV : VT t) : ∀ k j f, j + k = tP t → k < f → 1 ≤ j → f_X12_edgeOf_L4 g f (edS (g.1 176) j) (nI j) = some (edS (g.1 176) (tP t)) := by
  have h8 := hV.2.1
  intro k
  induction k with
  | zero =>
    intro j f hj hf h1
    obtain ⟨f, rfl⟩ : ∃ y, f = y + 1 := ⟨f - 1, by omega⟩
    unfold f_X12_edgeOf_L4
    rw [m_pointMany hM, clp_some, if_neg (by rw [uI_lt (by omega) (by omega)]; omega), show j = tP t by omega]
  | succ k ih =>
    intro j f hj hf h1
    obtain ⟨f, rfl⟩ : ∃ y, f = y + 1 := ⟨f - 1, by omega⟩
    unfold f_X12_edgeOf_L4
    rw [m_pointMany hM, clp_some, if_pos (by rw [uI_lt (by omega) (by omega)]; omega), rdA_nI (by omega) (by omega), uI_sub (by omega), rdA_nI (by omega) (by omega), m_sizeOf, clp_some, uI_add]
    have e : edS (g.1 176) j + ab (g.1 176 j - g.1 176 (j - 1)) = edS (g.1 176) (j + 1) := by
      show _ = edS (g.1 176) j + (if j = 0 then nI 0 else ab (g.1 176 j - g.1 176 (j - 1)))
      rw [if_neg (by omega)]
    rw [e]
    exact ih (j + 1) f (by omega) (by omega) (by omega)
theorem m_mostL {bk : Nat} {t : Tn} {g : CH} (hM : MT bk t g) (hV : VT t) : ∀ k j f, j + k = tP t → k < f → f_X12_endOf_L9 (nI 1) g f (mxS (g.1 176) j) (nI j) = some (mxS (g.1 176) (tP t)) := by
  have h8 := hV.2.1
  intro k
  induction k with
  | zero =>
    intro j f hj hf
    obtain ⟨f, rfl⟩ : ∃ y, f = y + 1 := ⟨f - 1, by omega⟩
    unfold f_X12_endOf_L9
    rw [m_pointMany hM, clp_some, if_neg (by rw [uI_lt (by omega) (by omega)]; omega), show j = tP t by omega]
  | succ k ih =>
    intro j f hj hf
    obtain ⟨f, rfl⟩ : ∃ y, f = y + 1 := ⟨f - 1, by omega⟩
    have nx := ih (j + 1) f (by omega) (by omega)
    have e : mxS (g.1 176) (j + 1) = if mxS (g.1 176) j < g.1 176 j then g.1 176 j else mxS (g.1 176) j := rfl
    unfold f_X12_endOf_L9
    rw [m_pointMany hM, clp_some, if_pos (by rw [uI_lt (by omega) (by omega)]; omega), jn_eq, jn_eq, if_neg (show ¬ nI 1 = 0 by decide), rdA_nI (by omega) (by omega), uI_add]
    by_cases c : mxS (g.1 176) j < g.1 176 j
    · rw [if_pos c] at e
      rw [if_pos c, rdA_nI (by omega) (by omega), ← e]
      exact nx
    · rw [if_neg c] at e
      rw [if_neg c, ← e]
      exact nx
theorem m_leastL {bk : Nat} {t : Tn} {g : CH} (hM : MT bk t g) (hV : VT t) : ∀ k j f, j + k = tP t → k < f → f_X12_endOf_L9 (nI 0) g f (mnS (g.1 176) j) (nI j) = some (mnS (g.1 176) (tP t)) := by
  have h8 := hV.2.1
  intro k
  induction k with
  | zero =>
    intro j f hj hf
    obtain ⟨f, rfl⟩ : ∃ y, f = y + 1 := ⟨f - 1, by omega⟩
    unfold f_X12_endOf_L9
    rw [m_pointMany hM, clp_some, if_neg (by rw [uI_lt (by omega) (by omega)]; omega), show j = tP t by omega]
  | succ k ih =>
    intro j f hj hf
    obtain ⟨f, rfl⟩ : ∃ y, f = y + 1 := ⟨f - 1, by omega⟩
    have nx := ih (j + 1) f (by omega) (by omega)
    have e : mnS (g.1 176) (j + 1) = if g.1 176 j < mnS (g.1 176) j then g.1 176 j else mnS (g.1 176) j := rfl
    unfold f_X12_endOf_L9
    rw [m_pointMany hM, clp_some, if_pos (by rw [uI_lt (by omega) (by omega)]; omega), jn_eq, jn_eq, if_pos (show nI 0 = 0 by decide), rdA_nI (by omega) (by omega), uI_add]
    by_cases c : g.1 176 j < mnS (g.1 176) j
    · rw [if_pos c] at e
      rw [if_pos c, rdA_nI (by omega) (by omega), ← e]
      exact nx
    · rw [if_neg c] at e
      rw [if_neg c, ← e]
      exact nx
set_option maxHeartbeats 4000000 in
theorem wth_pic {bk : Nat} {t : Tn} {h : CH} (hM : MT bk t h) (hV : VT t) (hp : PIC (tP t) (h.1 176)) : wth false (tP t) (Vpic (tP t) (h.1 176)) h := by
  intro x ho c1 g gF
  have h8 := hV.2.1
  have h3 := hV.1
  have hM2 : MT bk t g := hM.fr gF (fun a k z1 z2 => by unfold x172; omega) (by unfold x172; omega)
  have e176 : g.1 176 = h.1 176 := funext fun k => gF.1 _ _ (by unfold x172; omega)
  have xP := (ho.2 c1).2
  obtain ⟨n0, hn0, en0⟩ := hp 0 (by omega)
  unfold f_X12_worth Vpic
  by_cases z0 : x.2 = 0
  · rw [show (enS false x).1 = 115 from by unfold enS; rw [c1, z0]; rfl, if_pos z0, if_neg (show ¬ nI 115 = nI 101 by decide), if_neg (show ¬ nI 115 = nI 102 by decide), if_neg (show ¬ nI 115 = nI 107 by decide), if_neg (show ¬ nI 115 = nI 108 by decide), if_neg (show ¬ nI 115 = nI 109 by decide), if_neg (show ¬ nI 115 = nI 110 by decide), if_neg (show ¬ nI 115 = nI 113 by decide), if_pos rfl]
    have : f_X12_sumOf g = some (smI (tP t) (h.1 176)) := by
      unfold f_X12_sumOf
      rw [← e176]
      exact m_sumL hM2 hV (tP t) 0 FU (by omega) (by show _ < 100000; omega)
    rw [this, clp_some]
  rw [if_neg z0]
  by_cases z1 : x.2 = 1
  · rw [show (enS false x).1 = 101 from by unfold enS; rw [c1, z1]; rfl, if_pos z1, if_pos rfl]
    have : f_X12_edgeOf g = some (edS (h.1 176) (tP t)) := by
      unfold f_X12_edgeOf
      rw [← e176]
      exact m_edgeL hM2 hV (tP t - 1) 1 FU (by omega) (by show _ < 100000; omega) (by omega)
    rw [this, clp_some]
  rw [if_neg z1]
  by_cases z2 : x.2 = 2
  · rw [show (enS false x).1 = 109 from by unfold enS; rw [c1, z2]; rfl, if_pos z2, if_neg (show ¬ nI 109 = nI 101 by decide), if_neg (show ¬ nI 109 = nI 102 by decide), if_neg (show ¬ nI 109 = nI 107 by decide), if_neg (show ¬ nI 109 = nI 108 by decide), if_pos rfl]
    have : f_X12_endOf (nI 1) g = some (mxS (h.1 176) (tP t)) := by
      unfold f_X12_endOf
      rw [rdA_nI (by omega) (by omega)]
      have e : g.1 176 0 = mxS (g.1 176) 1 := by
        show _ = mx (nI 0) (g.1 176 0)
        rw [e176, en0, mx0 _ (by omega)]
      rw [e, ← e176]
      exact m_mostL hM2 hV (tP t - 1) 1 FU (by omega) (by show _ < 100000; omega)
    rw [this, clp_some]
  rw [if_neg z2]
  by_cases z3 : x.2 = 3
  · rw [show (enS false x).1 = 113 from by unfold enS; rw [c1, z3]; rfl, if_pos z3, if_neg (show ¬ nI 113 = nI 101 by decide), if_neg (show ¬ nI 113 = nI 102 by decide), if_neg (show ¬ nI 113 = nI 107 by decide), if_neg (show ¬ nI 113 = nI 108 by decide), if_neg (show ¬ nI 113 = nI 109 by decide), if_neg (show ¬ nI 113 = nI 110 by decide), if_pos rfl]
    have : f_X12_endOf (nI 0) g = some (mnS (h.1 176) (tP t)) := by
      unfold f_X12_endOf
      rw [rdA_nI (by omega) (by omega)]
      have e : g.1 176 0 = mnS (g.1 176) 1 := by
        show _ = mn (nI 99) (g.1 176 0)
        rw [e176, en0]
        unfold mn
        by_cases c : nI n0 < nI 99
        · rw [if_pos c]
        · rw [uI_lt (by omega) (by omega)] at c
          rw [if_neg (by rw [uI_lt (by omega) (by omega)]; exact c), show n0 = 99 by omega]
      rw [e, ← e176]
      exact m_leastL hM2 hV (tP t - 1) 1 FU (by omega) (by show _ < 100000; omega)
    rw [this, clp_some]
  rw [if_neg z3]
  have e1 : enS false x = (97, x.2 - 4) := by
    unfold enS
    rw [if_neg (by omega), if_pos c1, if_neg (by decide), if_neg z0, if_neg z1, if_neg z2, if_neg z3]
  rw [e1]
  show (if nI 97 = nI 101 then _ else _) = _
  rw [if_neg (show ¬ nI 97 = nI 101 by decide), if_neg (show ¬ nI 97 = nI 102 by decide), if_neg (show ¬ nI 97 = nI 107 by decide), if_neg (show ¬ nI 97 = nI 108 by decide), if_neg (show ¬ nI 97 = nI 109 by decide), if_neg (show ¬ nI 97 = nI 110 by decide), if_neg (show ¬ nI 97 = nI 113 by decide), if_neg (show ¬ nI 97 = nI 115 by decide), if_neg (show ¬ nI 97 = nI 121 by decide), rdA_nI (by omega) (by omega), e176]
theorem or_0 (x : Int32) : x ||| nI 0 = x := by
  apply Int32.toBitVec_inj.1
  rw [Int32.toBitVec_or]
  show x.toBitVec ||| 0#32 = x.toBitVec
  exact BitVec.or_zero
set_option maxHeartbeats 4000000 in
theorem m_signsQ {bk : Nat} {t : Tn} {q : Rq} {M : Cd} {h : CH} (hM : MT bk t h) (hV : VT t) (r : RM (tP t) q M h) : MS t (RuQ (tP t) q) h := by
  intro h1 hF hpic
  have hP1 : 1 ≤ tP t := by have := hV.1; omega
  have h6 := r.1.1
  have lp : ∀ k j f h3, j + k = qn q → k < f → Fr x172 h1 h3 → PO SA h1 (f_X12_signsOf_L4 f (sgb (Vpic (tP t) (h1.1 176)) q j) (nI j) h3) (sgb (Vpic (tP t) (h1.1 176)) q (qn q)) := by
    intro k
    induction k with
    | zero =>
      intro j f h3 hj hf f3
      obtain ⟨f, rfl⟩ : ∃ y, f = y + 1 := ⟨f - 1, by omega⟩
      have r3 := (r.fr hF (fun k hk => by unfold TM; omega) (fun a k hk => by unfold TM; omega)).fr f3 (fun k hk => by unfold x172; omega) (fun a k hk => by unfold x172; omega)
      unfold f_X12_signsOf_L4
      rw [r3.2.2.2.2.1, if_neg (by rw [uI_lt (by omega) (by omega)]; omega), show j = qn q by omega]
      exact PO.mk (f3.mono (fun a k z => Or.inl z))
    | succ k ih =>
      intro j f h3 hj hf f3
      obtain ⟨f, rfl⟩ : ∃ y, f = y + 1 := ⟨f - 1, by omega⟩
      have r3 := (r.fr hF (fun k hk => by unfold TM; omega) (fun a k hk => by unfold TM; omega)).fr f3 (fun k hk => by unfold x172; omega) (fun a k hk => by unfold x172; omega)
      have hM3 : MT bk t h3 := (hM.tm hF).fr f3 (fun a k z1 z2 => by unfold x172; omega) (by unfold x172; omega)
      have e176 : h3.1 176 = h1.1 176 := funext fun k => f3.1 _ _ (by unfold x172; omega)
      unfold f_X12_signsOf_L4
      obtain ⟨w1, w2⟩ := r3.2.2.2.2.2.2.2.2.2.1 j (by omega)
      have hw := wth_pic hM3 hV (by rw [e176]; exact hpic)
      rw [e176] at hw
      obtain ⟨h4, k1, k2⟩ := m_holds (r := 1 + j) (by omega) (r3.2.2.1 j (by omega)) r3.len hP1 (r3.1.2.2.2.1 j (by omega)).2.2 hw r3.2.2.2.2.2.2.2.2.1 w1 w2
      rw [r3.2.2.2.2.1, if_pos (by rw [uI_lt (by omega) (by omega)]; omega), uI_add, k1, cl_some, jn_eq, uI_add]
      have nx := ih (j + 1) f h4 (by omega) (by omega) (f3.tr k2)
      have eg : sgb (Vpic (tP t) (h1.1 176)) q (j + 1) = if tpv (evR (Vpic (tP t) (h1.1 176)) (qk q j) []) = 0 then sgb (Vpic (tP t) (h1.1 176)) q j else sgb (Vpic (tP t) (h1.1 176)) q j ||| (nI 1 <<< (nI j &&& 31)) := rfl
      by_cases c0 : tpv (evR (Vpic (tP t) (h1.1 176)) (qk q j) []) = 0
      · rw [decide_eq_false (fun z => z c0), if_pos (show bI false = 0 by decide)]
        rw [eg, if_pos c0] at nx
        dsimp only
        rw [or_0]
        exact nx
      · rw [decide_eq_true (p := ¬ tpv (evR (Vpic (tP t) (h1.1 176)) (qk q j) []) = 0) c0, if_neg (show ¬ bI true = 0 by decide)]
        rw [eg, if_neg c0] at nx
        exact nx
  unfold f_X12_signsOf
  exact lp (qn q) 0 FU h1 (by omega) (by show _ < 100000; omega) Fr.rf
theorem RuQ_ok {P : Nat} {q : Rq} (hP1 : 1 ≤ P) (hV : Vq P q) : SGok P (RuQ P q) := by
  intro u v huv
  show sgb (Vpic P u) q (qn q) = sgb (Vpic P v) q (qn q)
  have e1 : smI P u = smI P v := smI_congr huv
  have e2 : ∀ n, n ≤ P → edS u n = edS v n := by
    intro n
    induction n with
    | zero => intro _; rfl
    | succ n ih =>
      intro hn
      show edS u n + (if n = 0 then nI 0 else ab (u n - u (n - 1))) = edS v n + (if n = 0 then nI 0 else ab (v n - v (n - 1)))
      rw [ih (by omega), huv n (by omega), huv (n - 1) (by omega)]
  have e3 : ∀ n, n ≤ P → mxS u n = mxS v n := by
    intro n
    induction n with
    | zero => intro _; rfl
    | succ n ih =>
      intro hn
      show mx (mxS u n) (u n) = mx (mxS v n) (v n)
      rw [ih (by omega), huv n (by omega)]
  have e4 : ∀ n, n ≤ P → mnS u n = mnS v n := by
    intro n
    induction n with
    | zero => intro _; rfl
    | succ n ih =>
      intro hn
      show mn (mnS u n) (u n) = mn (mnS v n) (v n)
      rw [ih (by omega), huv n (by omega)]
  have ev : ∀ k, k < qn q → evR (Vpic P u) (qk q k) [] = evR (Vpic P v) (qk q k) [] := fun k hk => evR_congr _ _ (fun x hx c1 => by
    have := (((okc_1 hP1 (hV.2.2.2.1 k hk).2.2).2.2 x hx).2 c1).2
    unfold Vpic
    by_cases z0 : x.2 = 0
    · rw [if_pos z0, if_pos z0]; exact e1
    rw [if_neg z0, if_neg z0]
    by_cases z1 : x.2 = 1
    · rw [if_pos z1, if_pos z1]; exact e2 P (Nat.le_refl _)
    rw [if_neg z1, if_neg z1]
    by_cases z2 : x.2 = 2
    · rw [if_pos z2, if_pos z2]; exact e3 P (Nat.le_refl _)
    rw [if_neg z2, if_neg z2]
    by_cases z3 : x.2 = 3
    · rw [if_pos z3, if_pos z3]; exact e4 P (Nat.le_refl _)
    rw [if_neg z3, if_neg z3]
    exact huv _ (by omega))
  have lp : ∀ k, k ≤ qn q → sgb (Vpic P u) q k = sgb (Vpic P v) q k := by
    intro k
    induction k with
    | zero => intro _; rfl
    | succ k ih =>
      intro hk
      show (if tpv (evR (Vpic P u) (qk q k) []) = 0 then sgb (Vpic P u) q k else sgb (Vpic P u) q k ||| (nI 1 <<< (nI k &&& 31))) = (if tpv (evR (Vpic P v) (qk q k) []) = 0 then sgb (Vpic P v) q k else sgb (Vpic P v) q k ||| (nI 1 <<< (nI k &&& 31)))
      rw [ih (by omega), ev k (by omega)]
  exact lp (qn q) (Nat.le_refl _)
