/-! making: the words -/
def SWz (κ : Kz) (adK adV : Nat → Nat) : Prop := match κ with
  | (_, _, _, _, s, _, _, _, _, _, _, _, sz, _) => vk_R RX8 62 wtx (adK 0) s ∧ SW (Az sz) adK adV s
theorem cz_str {κ : Kz} {cc : ByteArray} {own : String} {nL fr lo ce sl : Nat} (C : Cz κ cc own nL fr lo ce sl) : ∃ adK adV, SWz κ adK adV := by
  obtain ⟨p, l, e, R, s, m, args, below, meth, c, D, cid, sz, Q⟩ := κ
  obtain ⟨-, ⟨-, -, -, -, adK, adV, h1, h2, h3, h4⟩, -⟩ := C
  exact ⟨adK, adV, h1, h2, h3, h4⟩
theorem z_ldcS {κ : Kz} {cc : ByteArray} {nL fr lo ce sl : Nat} (C : Cz κ cc RX8 nL fr lo ce sl) {adK adV : Nat → Nat} (hZ : SWz κ adK adV) {n : Nat} {U : List (Nat × Nat)} {cells slots pc : Nat} {ls : List (Nat × Value)} {st : List Value} {h : CH} (pc' : Nat) (hd : decode cc pc = .ok (.ldc 62, 2)) (hn : pc + 2 = pc') (k : Iz κ n U cells slots pc' ls (.ref (adK 0) :: st) h) : Iz κ n U cells slots pc ls st h := by
  obtain ⟨p, l, e, R, s, m, args, below, meth, c, D, cid, sz, Q⟩ := κ
  obtain ⟨⟨hx, hb, hml, hown, hts⟩, -⟩ := C
  subst hn
  intro hv H locs ls0 hs hP hS hl
  exact va_ldcS hx hb hown hZ.1 hd (k hv H locs ls0 hs hP hS hl)
theorem z_jV {κ : Kz} {cc : ByteArray} {own : String} {nL fr lo ce sl : Nat} (C : Cz κ cc own nL fr lo ce sl) {adK adV : Nat → Nat} (hZ : SWz κ adK adV) {n : Nat} {U : List (Nat × Nat)} {cells slots pc : Nat} {ls : List (Nat × Value)} {st : List Value} {h : CH} (pc' : Nat) {idx np mL d : Nat} {y : MethodName} {b : ByteArray} {ret : Option FieldType} {As : (Nat → Nat) → (Nat → Nat) → List Value} {rv : Option Value} {av stk : List Value} (hL : LV own idx y b mL ret np) (hM : MJ y b mL ret d As rv) (hd : decode cc pc = .ok (.invokevirtual idx, 3)) (hcl : y.cls = "java/lang/String") (hAs : As adK adV = .ref (adK 0) :: av) (hnp : av.length = np) (hst : (st.map fun v => v.category).sum ≤ 8) (hstk : stk = av.reverse ++ .ref (adK 0) :: st) (hfr : d + 1 ≤ fr) (hlo : 8 + (mL + 11) + 40 * d ≤ lo) (hce : cells ≤ ce) (hsl : slots ≤ sl) (hn : pc + 3 = pc')
    (kk : Iz κ n U cells slots pc' ls (rv.toList ++ st) h) : Iz κ n U cells slots pc ls stk h := by
  obtain ⟨p, l, e, R, s, m, args, below, meth, c, D, cid, sz, Q⟩ := κ
  obtain ⟨S, hKw, hsz, hfr2, hlo2, hce2, hsl2, hini⟩ := C
  subst hn
  intro hv H locs ls0 hs hP hS hl
  exact j_callV S hZ.2 hS hL hM hd hcl hAs hnp (hl.1.trans S.2.2.1) hst hstk (Nat.le_trans hfr hfr2) (Nat.le_trans hlo hlo2) (Nat.le_trans hce hce2) (Nat.le_trans hsl hsl2) (fun locs1 hS1 => kk hv H locs1 ls0 hs hP hS1 hl)
theorem z_jS {κ : Kz} {cc : ByteArray} {own : String} {nL fr lo ce sl : Nat} (C : Cz κ cc own nL fr lo ce sl) {adK adV : Nat → Nat} (hZ : SWz κ adK adV) {n : Nat} {U : List (Nat × Nat)} {cells slots pc : Nat} {ls : List (Nat × Value)} {st : List Value} {h : CH} (pc' : Nat) {idx np mL d : Nat} {y : MethodName} {b : ByteArray} {ret : Option FieldType} {As : (Nat → Nat) → (Nat → Nat) → List Value} {rv : Option Value} {av stk : List Value} (hL : LSj own idx y b mL ret np) (hM : MJ y b mL ret d As rv) (hd : decode cc pc = .ok (.invokestatic idx, 3)) (hAs : As adK adV = av) (hnp : av.length = np) (hst : (st.map fun v => v.category).sum ≤ 8) (hstk : stk = av.reverse ++ st) (hfr : d + 1 ≤ fr) (hlo : 8 + (mL + 11) + 40 * d ≤ lo) (hce : cells ≤ ce) (hsl : slots ≤ sl) (hn : pc + 3 = pc')
    (kk : Iz κ n U cells slots pc' ls (rv.toList ++ st) h) : Iz κ n U cells slots pc ls stk h := by
  obtain ⟨p, l, e, R, s, m, args, below, meth, c, D, cid, sz, Q⟩ := κ
  obtain ⟨S, hKw, hsz, hfr2, hlo2, hce2, hsl2, hini⟩ := C
  subst hn
  intro hv H locs ls0 hs hP hS hl
  exact j_callS S hZ.2 hS hL hM hd hAs hnp (hl.1.trans S.2.2.1) hst hstk (Nat.le_trans hfr hfr2) (Nat.le_trans hlo hlo2) (Nat.le_trans hce hce2) (Nat.le_trans hsl hsl2) (fun locs1 hS1 => kk hv H locs1 ls0 hs hP hS1 hl)
theorem z_eq {κ : Kz} {cc : ByteArray} {own : String} {nL fr lo ce sl : Nat} (C : Cz κ cc own nL fr lo ce sl) {n : Nat} {U : List (Nat × Nat)} {cells slots pc : Nat} {ls : List (Nat × Value)} {st : List Value} {h : CH} (pc' : Nat) (t : Nat) {x y : Int32} {off : Int} (hd : decode cc pc = .ok (.if_icmp .eq off, 3)) (ht : (pc : Int) + off = (t : Int)) (hn : pc + 3 = pc') (k1 : x = y → Iz κ n U cells slots t ls st h) (k2 : ¬ (x = y) → Iz κ n U cells slots pc' ls st h) : Iz κ n U cells slots pc ls (.int y :: .int x :: st) h := by
  obtain ⟨p, l, e, R, s, m, args, below, meth, c, D, cid, sz, Q⟩ := κ
  obtain ⟨⟨hx, hb, hml, hown, hts⟩, -⟩ := C
  subst hn
  intro hv H locs ls0 hs hP hS hl
  exact lv_icmp_eq hx hb hd ht (fun g => k1 g hv H locs ls0 hs hP hS hl) (fun g => k2 g hv H locs ls0 hs hP hS hl)
theorem z_idiv {κ : Kz} {cc : ByteArray} {own : String} {nL fr lo ce sl : Nat} (C : Cz κ cc own nL fr lo ce sl) {n : Nat} {U : List (Nat × Nat)} {cells slots pc : Nat} {ls : List (Nat × Value)} {st : List Value} {h : CH} (pc' : Nat) {x y z : Int32} (hy : ¬ y = 0) (hz : x / y = z) (hd : decode cc pc = .ok (.idiv, 1)) (hn : pc + 1 = pc') (k : Iz κ n U cells slots pc' ls (.int z :: st) h) : Iz κ n U cells slots pc ls (.int y :: .int x :: st) h := by
  obtain ⟨p, l, e, R, s, m, args, below, meth, c, D, cid, sz, Q⟩ := κ
  obtain ⟨⟨hx, hb, hml, hown, hts⟩, -⟩ := C
  subst hn
  subst hz
  intro hv H locs ls0 hs hP hS hl
  exact lv_idiv hx hb hd hy (k hv H locs ls0 hs hP hS hl)
theorem z_lald {κ : Kz} {cc : ByteArray} {own : String} {nL fr lo ce sl : Nat} (C : Cz κ cc own nL fr lo ce sl) {n : Nat} {U : List (Nat × Nat)} {cells slots pc : Nat} {ls : List (Nat × Value)} {st : List Value} {h : CH} (pc' : Nat) {a N k : Nat} (hd : decode cc pc = .ok (.laload, 1)) (hk : KT.getD a (9, 0) = (4, N)) (ha : a < n) (hkN : k < N) (hN : N < 2 ^ 31) (hn : pc + 1 = pc') (kk : Iz κ n U cells slots pc' ls (.long (h.2 a k) :: st) h) : Iz κ n U cells slots pc ls (.int (nI k) :: .ref (ksz κ + a) :: st) h := by
  obtain ⟨p, l, e, R, s, m, args, below, meth, c, D, cid, sz, Q⟩ := κ
  obtain ⟨⟨hx, hb, hml, hown, hts⟩, hKw, hsz, hfr, hlo, hce2, hsl2, hini⟩ := C
  have hK := hKw.1
  subst hn
  intro hv H locs ls0 hs hP hS hl
  have hea : (wu cid sz n U h)[a]? = some (sz + a, .inl (cid 3, N, .inr (.inl (h.2 a)))) := by rw [wu_get ha]; unfold cellU; rw [hk]; rfl
  have e : h.2 a (nI k).toNatClampNeg = h.2 a k := by rw [nI_clamp (by omega)]
  exact va_lald hx hb hK hP a 3 hea rfl (vp_in_nI hkN hN) hd (by rw [e]; exact kk hv H locs ls0 hs hP hS hl)
theorem z_last {κ : Kz} {cc : ByteArray} {own : String} {nL fr lo ce sl : Nat} (C : Cz κ cc own nL fr lo ce sl) {n : Nat} {U : List (Nat × Nat)} {cells slots pc : Nat} {ls : List (Nat × Value)} {st : List Value} {h : CH} (pc' : Nat) {a N k : Nat} {x : Int64} (hd : decode cc pc = .ok (.lastore, 1)) (hk : KT.getD a (9, 0) = (4, N)) (ha : a < n) (hkN : k < N) (hN : N < 2 ^ 31) (hn : pc + 1 = pc') (kk : Iz κ n U cells slots pc' ls st (sL h a k x)) : Iz κ n U cells slots pc ls (.long x :: .int (nI k) :: .ref (ksz κ + a) :: st) h := by
  obtain ⟨p, l, e, R, s, m, args, below, meth, c, D, cid, sz, Q⟩ := κ
  obtain ⟨⟨hx, hb, hml, hown, hts⟩, hKw, hsz, hfr, hlo, hce2, hsl2, hini⟩ := C
  have hK := hKw.1
  subst hn
  intro hv H locs ls0 hs hP hS hl
  have hea : (wu cid sz n U h)[a]? = some (sz + a, .inl (cid 3, N, .inr (.inl (h.2 a)))) := by rw [wu_get ha]; unfold cellU; rw [hk]; rfl
  have hin : vp_in (nI k) N := vp_in_nI hkN hN
  refine W.last hx hb (hP a _ hea) ((hK.2 3 (cid 3, .long) rfl).1 N (fun j => .long (h.2 a j))) (fun q => by cases q) (by show ¬ (nI k < 0 ∨ (arrV _ _ _).slots.size ≤ _); rw [arrV_size]; exact hin) rfl rfl hd fun H1 e1 z1 oq => ?_
  have hat : va_at D vwCl (sz + a, cellU cid sz U (sL h a k x) a) H1 := by
    have e : cellU cid sz U (sL h a k x) a = .inl (cid 3, N, .inr (.inl ((sL h a k x).2 a))) := by unfold cellU; rw [hk]; rfl
    rw [e]
    show H1[sz + a]? = some (vp_cell _ _)
    rw [e1, vp_cell_l, vp_cell_l, arrV_store, nI_clamp (by omega)]
    refine congrArg some (arrV_ext (fun j hj => ?_))
    show updV (fun j => Value.long (h.2 a j)) k (.long x) j = .long ((sL h a k x).2 a j)
    unfold updV sL
    by_cases hjk : j = k
    · simp [hjk]
    · simp [hjk]
  have hP1 := hP.set wu_D hea hat oq
  have hW : (wu cid sz n U h).set a (sz + a, cellU cid sz U (sL h a k x) a) = wu cid sz n U (sL h a k x) := wu_set (fun b hb => cellU_ext (fun j => rfl) rfl (by funext j; unfold sL; exact if_neg (fun q => hb q.1)))
  rw [hW] at hP1
  exact kk (fun b hb => ⟨(hv b hb).1, fun j => (show (if b = a ∧ j = k then x else h.2 b j) = 0 from (if_neg (fun q => by omega)).trans ((hv b hb).2 j))⟩) H1 _ ls0 (by omega) hP1 (hS.put z1 oq (Nat.le_add_right _ _)) hl
def tkS (i : Nat) (T : Nat → Int64) : Nat → Int64 := if wby.getD i 0 = 32 then T else fun k => if k = i / 8 then T (i / 8) * 32 + (wby.getD i 0 - 97 + 1).toInt64 else T k
def tkT (T : Nat → Int64) : Nat → Nat → Int64
  | 0 => T
  | i + 1 => tkS i (tkT T i)
def tkH (h : CH) (i : Nat) : CH := (h.1, fun a k => if a = 3 then tkT (h.2 3) i k else h.2 a k)
def tokW (h : CH) : CH := tkH h 192
theorem tkH_0 (h : CH) : tkH h 0 = h := by
  refine Prod.ext rfl (funext fun a => funext fun k => ?_)
  show (if a = 3 then h.2 3 k else h.2 a k) = h.2 a k
  by_cases e : a = 3
  · rw [if_pos e, e]
  · rw [if_neg e]
theorem tkH_sp {h : CH} {i : Nat} (e : wby.getD i 0 = 32) : tkH h (i + 1) = tkH h i := by
  show (h.1, fun a k => if a = 3 then tkS i (tkT (h.2 3) i) k else h.2 a k) = (h.1, fun a k => if a = 3 then tkT (h.2 3) i k else h.2 a k)
  unfold tkS
  rw [if_pos e]
theorem tkH_ch {h : CH} {i : Nat} (e : ¬ wby.getD i 0 = 32) : tkH h (i + 1) = sL (tkH h i) 3 (i / 8) ((tkH h i).2 3 (i / 8) * 32 + (wby.getD i 0 - 97 + 1).toInt64) := by
  show (h.1, fun a k => if a = 3 then tkS i (tkT (h.2 3) i) k else h.2 a k) = _
  unfold tkS sL tkH
  rw [if_neg e]
  refine Prod.ext rfl (funext fun a => funext fun k => ?_)
  by_cases ea : a = 3
  · subst ea
    simp
  · simp [ea]
theorem nI_div8 {i : Nat} (hi : i < 193) : nI i / nI 8 = nI (i / 8) := by
  have F : ∀ i, i < 193 → nI i / nI 8 = nI (i / 8) := by decide +kernel
  exact F i hi
def LU : List (Nat × Nat) := [(0, 4), (0, 5), (0, 6), (0, 7), (0, 8), (0, 9), (0, 10), (0, 11), (0, 12), (0, 13), (0, 14), (0, 15)]
set_option maxHeartbeats 4000000 in
theorem tok_go {κ : Kz} {h : CH} (C : Cz κ cX8_init RX8 3 8 400 4 4827) (Z : ∀ (pc : Nat) (ls : List (Nat × Value)), decode cX8_init pc = .ok (.return_, 1) → Iz κ 7 LU 4 4827 pc ls [] (tokW h)) {adK adV : Nat → Nat} (hZ : SWz κ adK adV) : ∀ (r i : Nat), i + r = 192 → Iz κ 7 LU 4 4827 97 [(2, .int (nI i)), (0, .ref (ksz κ + 2)), (1, .ref (ksz κ + 1))] [] (tkH h i) := by
  intro r
  induction r with
  | zero =>
    intro i hi
    obtain rfl : i = 192 := by omega
    refine z_iload C 98 0 rfl dX8_init_97 rfl ?_
    refine z_ldcS C hZ 100 dX8_init_98 rfl ?_
    refine z_jV C hZ 103 (av := []) (st := [.int (nI 192)]) lsX8_64 mj_length dX8_init_100 rfl rfl rfl (Nat.le_of_ble_eq_true rfl) rfl (by decide) (by decide) (by decide) (by decide) rfl ?_
    refine z_ge C 106 159 dX8_init_103 (by decide) rfl (fun c => absurd c (nI_nlt (Nat.le_refl _) (by decide))) (fun _ => ?_)
    exact Z 159 _ dX8_init_159
  | succ r ih =>
    intro i hi
    have hi2 : i < 192 := by omega
    have h8 : i / 8 < 24 := by omega
    have next : Iz κ 7 LU 4 4827 153 [(2, .int (nI i)), (0, .ref (ksz κ + 2)), (1, .ref (ksz κ + 1))] [] (tkH h (i + 1)) := by
      refine z_iinc C 156 0 (nI 1) _ dX8_init_153 rfl (by decide) (by decide) rfl rfl ?_
      refine z_goto C 97 dX8_init_156 (by decide) ?_
      rw [nI_add]
      exact ih (i + 1) (by omega)
    refine z_iload C 98 0 rfl dX8_init_97 rfl ?_
    refine z_ldcS C hZ 100 dX8_init_98 rfl ?_
    refine z_jV C hZ 103 (av := []) (st := [.int (nI i)]) lsX8_64 mj_length dX8_init_100 rfl rfl rfl (Nat.le_of_ble_eq_true rfl) rfl (by decide) (by decide) (by decide) (by decide) rfl ?_
    refine z_ge C 106 159 dX8_init_103 (by decide) rfl (fun _ => ?_) (fun c => absurd (nI_lt hi2 (by decide)) c)
    refine z_iload C 107 0 rfl dX8_init_106 rfl ?_
    refine z_bipush C 109 (nI 8) (by decide) dX8_init_107 rfl ?_
    refine z_idiv C 110 (by decide) (nI_div8 (by omega)) dX8_init_109 rfl ?_
    refine z_bipush C 112 (nI 24) (by decide) dX8_init_110 rfl ?_
    refine z_ge C 115 159 dX8_init_112 (by decide) rfl (fun _ => ?_) (fun c => absurd (nI_lt h8 (by decide)) c)
    refine z_ldcS C hZ 117 dX8_init_115 rfl ?_
    refine z_iload C 118 0 rfl dX8_init_117 rfl ?_
    refine z_jV C hZ 121 (av := [.int (nI i)]) (st := []) lsX8_69 (mj_charAt hi2) dX8_init_118 rfl rfl rfl (Nat.le_of_ble_eq_true rfl) rfl (by decide) (by decide) (by decide) (by decide) rfl ?_
    refine z_bipush C 123 32 (by decide) dX8_init_121 rfl ?_
    refine z_eq C 126 153 dX8_init_123 (by decide) rfl (fun c => ?_) (fun c => ?_)
    · rw [← tkH_sp c]
      exact next
    · refine z_aload C 127 1 rfl dX8_init_126 rfl ?_
      refine z_getR C 130 (b := 3) (by decide +kernel) dX8_init_127 flX8_11 kt_2 (by decide) rfl ?_
      refine z_iload C 131 0 rfl dX8_init_130 rfl ?_
      refine z_bipush C 133 (nI 8) (by decide) dX8_init_131 rfl ?_
      refine z_idiv C 134 (by decide) (nI_div8 (by omega)) dX8_init_133 rfl ?_
      refine z_aload C 135 1 rfl dX8_init_134 rfl ?_
      refine z_getR C 138 (b := 3) (by decide +kernel) dX8_init_135 flX8_11 kt_2 (by decide) rfl ?_
      refine z_iload C 139 0 rfl dX8_init_138 rfl ?_
      refine z_bipush C 141 (nI 8) (by decide) dX8_init_139 rfl ?_
      refine z_idiv C 142 (by decide) (nI_div8 (by omega)) dX8_init_141 rfl ?_
      refine z_lald C 143 (N := 24) dX8_init_142 kt_3 (by decide) h8 (by decide) rfl ?_
      refine z_ldcS C hZ 145 dX8_init_143 rfl ?_
      refine z_iload C 146 0 rfl dX8_init_145 rfl ?_
      refine z_jV C hZ 149 (av := [.int (nI i)]) (st := [.long ((tkH h i).2 3 (i / 8)), .int (nI (i / 8)), .ref (ksz κ + 3)]) lsX8_69 (mj_charAt hi2) dX8_init_146 rfl rfl rfl (Nat.le_of_ble_eq_true rfl) rfl (by decide) (by decide) (by decide) (by decide) rfl ?_
      refine z_jS C hZ 152 (av := [.long ((tkH h i).2 3 (i / 8)), .int (wby.getD i 0)]) (st := [.int (nI (i / 8)), .ref (ksz κ + 3)]) ljX8_73 (mj_letter _ _) dX8_init_149 rfl rfl (Nat.le_of_ble_eq_true rfl) rfl (by decide) (by decide) (by decide) (by decide) rfl ?_
      refine z_last C 153 (N := 24) dX8_init_152 kt_3 (by decide) h8 (by decide) rfl ?_
      rw [← tkH_ch c]
      exact next
theorem tok_loop {κ : Kz} {h : CH} (C : Cz κ cX8_init RX8 3 8 400 4 4827) (Z : ∀ (pc : Nat) (ls : List (Nat × Value)), decode cX8_init pc = .ok (.return_, 1) → Iz κ 7 [(0, 4), (0, 5), (0, 6), (0, 7), (0, 8), (0, 9), (0, 10), (0, 11), (0, 12), (0, 13), (0, 14), (0, 15)] 4 4827 pc ls [] (tokW h)) : Iz κ 7 [(0, 4), (0, 5), (0, 6), (0, 7), (0, 8), (0, 9), (0, 10), (0, 11), (0, 12), (0, 13), (0, 14), (0, 15)] 4 4827 95 [(0, .ref (ksz κ + 2)), (1, .ref (ksz κ + 1))] [] h := by
  obtain ⟨adK, adV, hZ⟩ := cz_str C
  refine z_iconst C 96 (nI 0) (by decide) dX8_init_95 rfl ?_
  refine z_istore C 97 2 _ dX8_init_96 rfl (by decide) rfl rfl ?_
  have g := tok_go C Z hZ 192 0 rfl
  rw [tkH_0] at g
  exact g
