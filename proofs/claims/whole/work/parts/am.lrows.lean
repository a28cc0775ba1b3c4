/-! the law: its two objects made (its name is no constructor's) -/
def Cy (κ : Kz) (cc : ByteArray) (own : String) (nL fr lo ce sl : Nat) : Prop := match κ with
  | (p, l, e, R, s, m, args, below, meth, c, D, cid, sz, Q) =>
    CallFix p m c cc nL s args TS own ∧ Kw D cid sz s ∧ sz ≤ s.heap.size ∧ fr ≤ R.frames ∧ lo ≤ R.locals ∧ ce ≤ R.cells ∧ sl ≤ R.slots
theorem y_iconst {κ : Kz} {cc : ByteArray} {own : String} {nL fr lo ce sl : Nat} (C : Cy κ cc own nL fr lo ce sl) {n : Nat} {U : List (Nat × Nat)} {cells slots pc : Nat} {ls : List (Nat × Value)} {st : List Value} {h : CH} (pc' : Nat) {i : Int} (w : Int32) (hw : Int32.ofInt i = w) (hd : decode cc pc = .ok (.iconst i, 1)) (hn : pc + 1 = pc') (k : Iz κ n U cells slots pc' ls (.int w :: st) h) : Iz κ n U cells slots pc ls st h := by
  obtain ⟨p, l, e, R, s, m, args, below, meth, c, D, cid, sz, Q⟩ := κ
  obtain ⟨⟨hx, hb, hml, hown, hts⟩, -⟩ := C
  subst hn
  intro hv H locs ls0 hs hP hS hl
  exact lv_iconst hx hb hd hw (k hv H locs ls0 hs hP hS hl)
theorem y_dup {κ : Kz} {cc : ByteArray} {own : String} {nL fr lo ce sl : Nat} (C : Cy κ cc own nL fr lo ce sl) {n : Nat} {U : List (Nat × Nat)} {cells slots pc : Nat} {ls : List (Nat × Value)} {st : List Value} {h : CH} (pc' : Nat) {x : Nat} (hd : decode cc pc = .ok (.dup, 1)) (hn : pc + 1 = pc') (k : Iz κ n U cells slots pc' ls (.ref x :: .ref x :: st) h) : Iz κ n U cells slots pc ls (.ref x :: st) h := by
  obtain ⟨p, l, e, R, s, m, args, below, meth, c, D, cid, sz, Q⟩ := κ
  obtain ⟨⟨hx, hb, hml, hown, hts⟩, -⟩ := C
  subst hn
  intro hv H locs ls0 hs hP hS hl
  exact lv_dup hx hb hd rfl (k hv H locs ls0 hs hP hS hl)
theorem y_new {κ : Kz} {cc : ByteArray} {own : String} {nL fr lo ce sl : Nat} (C : Cy κ cc own nL fr lo ce sl) {n : Nat} {U : List (Nat × Nat)} {cells slots pc : Nat} {ls : List (Nat × Value)} {st : List Value} {h : CH} (pc' : Nat) {idx ci N : Nat} (U' : List (Nat × Nat)) (hd : decode cc pc = .ok (.new idx, 3)) (hL : NLk own idx ci N) (hk : KT.getD n (9, 0) = (0, ci)) (hU : refsOf n ci ++ U = U') (hce : cells + 1 ≤ ce) (hsl : slots + N ≤ sl) (hn : pc + 3 = pc') (kk : Iz κ (n + 1) U' (cells + 1) (slots + N) pc' ls (.ref (ksz κ + n) :: st) h) : Iz κ n U cells slots pc ls st h := by
  obtain ⟨p, l, e, R, s, m, args, below, meth, c, D, cid, sz, Q⟩ := κ
  obtain ⟨⟨hx, hb, hml, hown, hts⟩, hKw, hsz, hfr, hlo, hce2, hsl2⟩ := C
  have hK := hKw.1
  subst hn
  intro hv H locs ls0 hs hP hS hl
  subst hU
  obtain ⟨C1, T1, ty0, hc, hN, l1, l2, l3, hin, hty, hkd⟩ := hL
  have hKn := hK.1 ci _ hc
  refine W.newcK hx hb hown (hts _ l1) (hts _ l2) (hts _ l3) rfl hd (Nat.le_trans hce hce2) (Nat.le_trans hsl hsl2) hKn.2.1 hs fun H1 kC hkC e1 z1 o1 => ?_
  have hkp : ∀ (k : Nat) (x : Nat × va_E), (wu cid sz n U h)[k]? = some x → H1[x.1]? = H[x.1]? := fun k x hx => o1 x.1 (by have := (hP k x hx).lt; omega)
  have hP1 : va_P D vwCl (wu cid sz (n + 1) (refsOf n ci ++ U) h) H1 := by
    rw [wu_succ, wu_ext (U := U) (fun a ha k => RU_new (fun q hq => by obtain ⟨k2, -, rfl⟩ := List.mem_map.mp hq; rfl) (by omega))]
    refine (hP.kept hkp).app (fun k x hx => ?_)
    have hz : k < 1 := (List.getElem?_eq_some_iff.mp hx).1
    rw [show k = 0 by omega] at hx
    cases hx
    have e : cellU cid sz (refsOf n ci ++ U) h n = .inr (ci, fvus sz (refsOf n ci ++ U) h n ci) := by unfold cellU; rw [hk]; rfl
    rw [e]
    refine ⟨_, hc, (u_born ty0 hts hin hKn hkC e1 hty).to (fun j hj => ?_)⟩
    obtain ⟨g1, g2⟩ := hkd j hj
    have hj2 : j < (FT.getD ci []).length := by rw [← hN]; exact hj
    have hv2 := hv n (Nat.le_refl n)
    unfold vp_V
    rw [kd_def g2, List.getD_eq_getElem?_getD, fvus_get hj2, Option.getD_some, g1]
    unfold fvu
    rw [hv2.1, hv2.2]
    by_cases k0 : (FT.getD ci []).getD j 9 = 0
    · rw [if_pos k0, if_pos k0]
    · rw [if_neg k0, if_neg k0]
      by_cases k1 : (FT.getD ci []).getD j 9 = 1
      · rw [if_pos k1, if_pos k1]
      · rw [if_neg k1, if_neg k1, RU_in (List.mem_append_left _ (refs_in hj2 (by omega)))]
        rfl
  exact kk (fun a ha => hv a (by omega)) H1 locs ls0 (by omega) hP1 ⟨Nat.le_trans hS.1 (by omega), fun x h1 h2 => (o1 x (by have := hS.1; omega)).trans (hS.2.1 x h1 h2), hS.2.2⟩ hl
theorem y_istore {κ : Kz} {cc : ByteArray} {own : String} {nL fr lo ce sl : Nat} (C : Cy κ cc own nL fr lo ce sl) {n : Nat} {U : List (Nat × Nat)} {cells slots pc : Nat} {ls : List (Nat × Value)} {st : List Value} {h : CH} (pc' : Nat) (i : Nat) {i4 : Fin 4} {x : Int32} (ls' : List (Nat × Value)) (hd : decode cc pc = .ok (.istore_n i4, 1)) (hi4 : (i4 : Nat) = i) (hi : i < nL) (hl' : (i, Value.int x) :: ls.filter (fun q => !(q.1 == i) && !(q.1 + 1 == i && q.2.category == 2)) = ls') (hn : pc + 1 = pc') (k : Iz κ n U cells slots pc' ls' st h) : Iz κ n U cells slots pc ls (.int x :: st) h := by
  obtain ⟨p, l, e, R, s, m, args, below, meth, c, D, cid, sz, Q⟩ := κ
  obtain ⟨⟨hx, hb, hml, hown, hts⟩, hKw, hsz, hfr, hlo, hce2, hsl2⟩ := C
  have hK := hKw.1
  subst hn
  intro hv H locs ls0 hs hP hS hl
  exact lv_istore_n hx hb hd hi4 hl (by rw [hml]; exact hi) hl' (fun ls1 hl1 => k hv H locs ls1 hs hP hS hl1)
theorem y_call {κ : Kz} {cc : ByteArray} {own : String} {nL fr lo ce sl : Nat} (C : Cy κ cc own nL fr lo ce sl) {n : Nat} {U : List (Nat × Nat)} {cells slots pc : Nat} {ls : List (Nat × Value)} {st : List Value} {h : CH} (pc' : Nat) {idx : Nat} {y : MethodName} {b : ByteArray} {mL np n1 fr' lo' ce' sl' x : Nat} {U1 : List (Nat × Nat)} {As : Nat → List Value} {av stk : List Value} {h1 : CH} (c1 c2 : Nat) (hd : decode cc pc = .ok (.invokespecial idx, 3)) (hL : LI own idx y b mL np) (hM : MZ y b mL n n1 U U1 fr' lo' ce' sl' As h h1) (hfr1 : fr' + 1 ≤ fr) (hlo1 : 8 + (mL + 11) + lo' ≤ lo) (hce1 : cells + ce' ≤ ce) (hsl1 : slots + sl' ≤ sl) (hc1 : cells + ce' = c1) (hc2 : slots + sl' = c2) (hAs : As (ksz κ) = .ref x :: av) (hnp : av.length = np) (hst : (st.map fun v => v.category).sum ≤ 8) (hstk : stk = av.reverse ++ .ref x :: st) (hn : pc + 3 = pc') (kk : Iz κ n1 U1 c1 c2 pc' ls st h1) : Iz κ n U cells slots pc ls stk h := by
  obtain ⟨p, l, e, R, s, m, args, below, meth, c, D, cid, sz, Q⟩ := κ
  obtain ⟨⟨hx, hb, hml, hown, hts⟩, hKw, hsz, hfr, hlo, hce2, hsl2⟩ := C
  have hK := hKw.1
  subst hn
  intro hv H locs ls0 hs hP hS hl
  subst hc1
  subst hc2
  have hAs : As sz = .ref x :: av := hAs
  have hgood : GoodIn TS (Cond.code y b mL none :: TS) := by
    intro w hw
    have hm : w ∈ TS := by
      rcases List.mem_cons.mp hw with g | g
      · exact hL.1 w (by rw [g]; simp)
      · exact g
    exact ⟨hm, TS_good w hm⟩
  have hpre : PreS s H (va_Pc (As sz) (fun S => S.heap.size = sz + n ∧ va_P D vwCl (wu cid sz n U h) S.heap ∧ Kw D cid sz S)) (.ref x :: av) :=
    ⟨mz_blind, fun S hS1 hW => ⟨by rw [hAs], by rw [hS1]; exact hs, by rw [hS1]; exact hP, Kw.go (fun _ _ _ _ r => vk_R.warm hW r) (fun _ _ _ _ r => va_Nw.warmM hW r) hW.alike (fun a h1 h2 => by rw [hS1]; exact hS.2.1 a h1 h2) hKw⟩⟩
  refine va_callg (va_runI (g := F0 m pc ls0 stk) ⟨hx, hb, hml, hown, hts⟩ (hM l D cid sz hv) (cwI np hts hgood rfl rfl rfl (hts _ (hL.1 _ (by simp))) (hts _ (hL.1 _ (by simp))) (hts _ (hL.1 _ (by simp))) hL.2.1 ⟨hL.2.2.1.1, hL.2.2.1.2, hL.2.2.2⟩ ⟨Nat.le_trans hfr1 hfr, Nat.le_trans hlo1 hlo⟩) hpre rfl hnp (hl.1.trans hml) hstk (lv_room hst) hd ⟨Nat.le_trans hce1 hce2, Nat.le_trans hsl1 hsl2⟩) hS (fun q _ h => h) (fun q h => h) (fun t H1 locs1 ht hvm hB hS1 => ?_)
  obtain ⟨b1, b2, b3⟩ := hB
  rw [ht] at b2 b3
  exact kk b1 H1 locs1 ls0 b2 b3 hS1 hl
theorem y_astore {κ : Kz} {cc : ByteArray} {own : String} {nL fr lo ce sl : Nat} (C : Cy κ cc own nL fr lo ce sl) {n : Nat} {U : List (Nat × Nat)} {cells slots pc : Nat} {ls : List (Nat × Value)} {st : List Value} {h : CH} (pc' : Nat) (i : Nat) {i4 : Fin 4} {x : Nat} (ls' : List (Nat × Value)) (hd : decode cc pc = .ok (.astore_n i4, 1)) (hi4 : (i4 : Nat) = i) (hi : i < nL) (hl' : (i, Value.ref x) :: ls.filter (fun q => !(q.1 == i) && !(q.1 + 1 == i && q.2.category == 2)) = ls') (hn : pc + 1 = pc') (k : Iz κ n U cells slots pc' ls' st h) : Iz κ n U cells slots pc ls (.ref x :: st) h := by
  obtain ⟨p, l, e, R, s, m, args, below, meth, c, D, cid, sz, Q⟩ := κ
  obtain ⟨⟨hx, hb, hml, hown, hts⟩, hKw, hsz, hfr, hlo, hce2, hsl2⟩ := C
  have hK := hKw.1
  subst hn
  intro hv H locs ls0 hs hP hS hl
  exact lv_astore_n hx hb hd hi4 hl (by rw [hml]; exact hi) hl' (fun ls1 hl1 => k hv H locs ls1 hs hP hS hl1)
def Kl (κ : Kz) (ce sl : Nat) : Kx Unit := match κ with
  | (p, l, e, R, s, m, args, below, meth, c, D, cid, sz, Q) => (p, l, e, R, s, m, args, below, meth, c, D, cid, (fun a => sz + a), List.range 193, Az sz, ce, sl, fun _ => Q)
theorem y_callY {κ : Kz} {cc : ByteArray} {own : String} {nL fr lo ce sl : Nat} (C : Cy κ cc own nL fr lo ce sl) {n : Nat} {U : List (Nat × Nat)} {cells slots pc : Nat} {ls : List (Nat × Value)} {st : List Value} {h : CH} (pc' : Nat) {idx : Nat} {y : MethodName} {b : ByteArray} {mL np fr' lo' ce' sl' x : Nat} {As : Nat → List Value} {av stk : List Value} {h1 : CH} (c1 c2 : Nat) (hd : decode cc pc = .ok (.invokespecial idx, 3)) (hL : LI own idx y b mL np) (hM : MY y b mL n U fr' lo' ce' sl' As h h1) (hfr1 : fr' + 1 ≤ fr) (hlo1 : 8 + (mL + 11) + lo' ≤ lo) (hce1 : cells + ce' ≤ ce) (hsl1 : slots + sl' ≤ sl) (hc1 : cells + ce' = c1) (hc2 : slots + sl' = c2) (hAs : As (ksz κ) = .ref x :: av) (hnp : av.length = np) (hst : (st.map fun v => v.category).sum ≤ 8) (hstk : stk = av.reverse ++ .ref x :: st) (hn : pc + 3 = pc') (kk : Imp (Kl κ c1 c2) pc' ls st h1 (some ())) : Iz κ n U cells slots pc ls stk h := by
  obtain ⟨p, l, e, R, s, m, args, below, meth, c, D, cid, sz, Q⟩ := κ
  obtain ⟨⟨hx, hb, hml, hown, hts⟩, hKw, hsz, hfr, hlo, hce2, hsl2⟩ := C
  have hK := hKw.1
  subst hn
  intro hv H locs ls0 hs hP hS hl
  subst hc1
  subst hc2
  have hAs : As sz = .ref x :: av := hAs
  have hgood : GoodIn TS (Cond.code y b mL none :: TS) := by
    intro w hw
    have hm : w ∈ TS := by
      rcases List.mem_cons.mp hw with g | g
      · exact hL.1 w (by rw [g]; simp)
      · exact g
    exact ⟨hm, TS_good w hm⟩
  have hpre : PreS s H (va_Pc (As sz) (fun S => S.heap.size = sz + n ∧ va_P D vwCl (wu cid sz n U h) S.heap ∧ Kw D cid sz S)) (.ref x :: av) :=
    ⟨mz_blind, fun S hS1 hW => ⟨by rw [hAs], by rw [hS1]; exact hs, by rw [hS1]; exact hP, Kw.go (fun _ _ _ _ r => vk_R.warm hW r) (fun _ _ _ _ r => va_Nw.warmM hW r) hW.alike (fun a h1 h2 => by rw [hS1]; exact hS.2.1 a h1 h2) hKw⟩⟩
  refine va_callg (va_runI (g := F0 m pc ls0 stk) ⟨hx, hb, hml, hown, hts⟩ (hM l D cid sz hv) (cwI np hts hgood rfl rfl rfl (hts _ (hL.1 _ (by simp))) (hts _ (hL.1 _ (by simp))) (hts _ (hL.1 _ (by simp))) hL.2.1 ⟨hL.2.2.1.1, hL.2.2.1.2, hL.2.2.2⟩ ⟨Nat.le_trans hfr1 hfr, Nat.le_trans hlo1 hlo⟩) hpre rfl hnp (hl.1.trans hml) hstk (lv_room hst) hd ⟨Nat.le_trans hce1 hce2, Nat.le_trans hsl1 hsl2⟩) hS (fun q _ h => h) (fun q h => h) (fun t H1 locs1 ht hvm hB hS1 => ?_)
  rw [ht] at hB
  exact kk () rfl H1 locs1 ls0 hB (by rw [← wu_wl]; exact wu_D) hS1 hl
