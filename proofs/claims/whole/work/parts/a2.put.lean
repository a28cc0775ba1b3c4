/-! making: fields put and read, calls, ends -/
theorem fvus_setI {sz : Nat} {U : List (Nat × Nat)} {h : CH} {a ci k : Nat} {x : Int32} (e3 : (FT.getD ci []).getD k 9 = 0) : (fvus sz U h a ci).set k (.int x) = fvus sz U (sI h a k x) a ci := by
  apply List.ext_getElem?
  intro j
  rw [List.getElem?_set, fvus_len]
  by_cases hj2 : j < (FT.getD ci []).length
  · rw [fvus_get hj2, fvus_get hj2]
    by_cases hj : k = j
    · subst hj
      rw [if_pos rfl, if_pos hj2]
      unfold fvu
      rw [if_pos e3]
      simp [sI]
    · rw [if_neg hj]
      unfold fvu
      simp [sI, Ne.symm hj]
  · rw [List.getElem?_eq_none (by rw [fvus_len]; omega), List.getElem?_eq_none (by rw [fvus_len]; omega)]
    by_cases hj : k = j
    · subst hj
      rw [if_pos rfl, if_neg hj2]
    · rw [if_neg hj]
theorem fvus_setL {sz : Nat} {U : List (Nat × Nat)} {h : CH} {a ci k : Nat} {x : Int64} (e3 : (FT.getD ci []).getD k 9 = 1) : (fvus sz U h a ci).set k (.long x) = fvus sz U (sL h a k x) a ci := by
  apply List.ext_getElem?
  intro j
  rw [List.getElem?_set, fvus_len]
  by_cases hj2 : j < (FT.getD ci []).length
  · rw [fvus_get hj2, fvus_get hj2]
    by_cases hj : k = j
    · subst hj
      rw [if_pos rfl, if_pos hj2]
      unfold fvu
      rw [if_neg (by omega), if_pos e3]
      simp [sL]
    · rw [if_neg hj]
      unfold fvu
      simp [sL, Ne.symm hj]
  · rw [List.getElem?_eq_none (by rw [fvus_len]; omega), List.getElem?_eq_none (by rw [fvus_len]; omega)]
    by_cases hj : k = j
    · subst hj
      rw [if_pos rfl, if_neg hj2]
    · rw [if_neg hj]
def unU (U : List (Nat × Nat)) (a k : Nat) : List (Nat × Nat) := U.filter (fun q => !(q == (a, k)))
theorem RU_un {U : List (Nat × Nat)} {a k b j : Nat} : RU (unU U a k) b j = if b = a ∧ j = k then RF a k else RU U b j := by
  by_cases e : b = a ∧ j = k
  · obtain ⟨rfl, rfl⟩ := e
    rw [if_pos ⟨rfl, rfl⟩]
    refine if_neg ?_
    rw [List.contains_iff_mem]
    intro g
    have := (List.mem_filter.mp g).2
    simp at this
  · rw [if_neg e]
    unfold RU
    have e2 : (unU U a k).contains (b, j) = U.contains (b, j) := by
      rw [Bool.eq_iff_iff, List.contains_iff_mem, List.contains_iff_mem]
      unfold unU
      rw [List.mem_filter]
      constructor
      · exact fun g => g.1
      · intro g
        refine ⟨g, ?_⟩
        simp only [Bool.not_eq_true', beq_eq_false_iff_ne, ne_eq, Prod.mk.injEq]
        exact e
    rw [e2]
theorem fvus_setR {sz : Nat} {U : List (Nat × Nat)} {h : CH} {a ci k b : Nat} (e3 : (FT.getD ci []).getD k 9 = 2) (hR : RF a k = some b) : (fvus sz U h a ci).set k (.ref (sz + b)) = fvus sz (unU U a k) h a ci := by
  apply List.ext_getElem?
  intro j
  rw [List.getElem?_set, fvus_len]
  by_cases hj2 : j < (FT.getD ci []).length
  · rw [fvus_get hj2, fvus_get hj2]
    by_cases hj : k = j
    · subst hj
      rw [if_pos rfl, if_pos hj2]
      unfold fvu
      rw [if_neg (by omega), if_neg (by omega), RU_un, if_pos ⟨rfl, rfl⟩, hR]
      rfl
    · rw [if_neg hj]
      unfold fvu
      rw [RU_un, if_neg (show ¬ (a = a ∧ j = k) from fun q => hj q.2.symm)]
  · rw [List.getElem?_eq_none (by rw [fvus_len]; omega), List.getElem?_eq_none (by rw [fvus_len]; omega)]
    by_cases hj : k = j
    · subst hj
      rw [if_pos rfl, if_neg hj2]
    · rw [if_neg hj]
theorem FL_kd {own : String} {idx ci k : Nat} {ty : FieldType} {fin : Bool} {kd : Nat} (h : FL own idx ci k ty fin kd) : (FT.getD ci []).getD k 9 = kd := by
  obtain ⟨C1, T1, N1, ty0, hc, hN, hkN, hlk, hin, hty, hnm, e1, e2, e3⟩ := h
  exact e3

theorem z_putI {κ : Kz} {cc : ByteArray} {own : String} {nL fr lo ce sl : Nat} (C : Cz κ cc own nL fr lo ce sl) {n : Nat} {U : List (Nat × Nat)} {cells slots pc : Nat} {ls : List (Nat × Value)} {st : List Value} {h : CH} (pc' : Nat) {idx ci k a : Nat} {fin : Bool} {x : Int32} (hd : decode cc pc = .ok (.putfield idx, 3)) (hF : FL own idx ci k .int fin 0) (hk : KT.getD a (9, 0) = (0, ci)) (ha : a < n) (hcl : (vwCl[ci]?).map (fun q => (q.2.1 k).1) = some own) (hn : pc + 3 = pc') (kk : Iz κ n U cells slots pc' ls st (sI h a k x)) : Iz κ n U cells slots pc ls (.int x :: .ref (ksz κ + a) :: st) h :=
  z_putG C pc' U (sI h a k x) hd hF hk ha hcl rfl rfl (fvus_setI (FL_kd hF)) (fun b hb => ⟨fun _ => rfl, by funext j; simp [sI, hb], rfl⟩) hn kk
theorem z_putZ {κ : Kz} {cc : ByteArray} {own : String} {nL fr lo ce sl : Nat} (C : Cz κ cc own nL fr lo ce sl) {n : Nat} {U : List (Nat × Nat)} {cells slots pc : Nat} {ls : List (Nat × Value)} {st : List Value} {h : CH} (pc' : Nat) {idx ci k a : Nat} {fin : Bool} {x : Int32} (hx : narrow .boolean (.int x) = .int x) (hft : fits .boolean (.int x) = true) (hd : decode cc pc = .ok (.putfield idx, 3)) (hF : FL own idx ci k .boolean fin 0) (hk : KT.getD a (9, 0) = (0, ci)) (ha : a < n) (hcl : (vwCl[ci]?).map (fun q => (q.2.1 k).1) = some own) (hn : pc + 3 = pc') (kk : Iz κ n U cells slots pc' ls st (sI h a k x)) : Iz κ n U cells slots pc ls (.int x :: .ref (ksz κ + a) :: st) h :=
  z_putG C pc' U (sI h a k x) hd hF hk ha hcl hx hft (fvus_setI (FL_kd hF)) (fun b hb => ⟨fun _ => rfl, by funext j; simp [sI, hb], rfl⟩) hn kk
theorem z_putJ {κ : Kz} {cc : ByteArray} {own : String} {nL fr lo ce sl : Nat} (C : Cz κ cc own nL fr lo ce sl) {n : Nat} {U : List (Nat × Nat)} {cells slots pc : Nat} {ls : List (Nat × Value)} {st : List Value} {h : CH} (pc' : Nat) {idx ci k a : Nat} {fin : Bool} {x : Int64} (hd : decode cc pc = .ok (.putfield idx, 3)) (hF : FL own idx ci k .long fin 1) (hk : KT.getD a (9, 0) = (0, ci)) (ha : a < n) (hcl : (vwCl[ci]?).map (fun q => (q.2.1 k).1) = some own) (hn : pc + 3 = pc') (kk : Iz κ n U cells slots pc' ls st (sL h a k x)) : Iz κ n U cells slots pc ls (.long x :: .ref (ksz κ + a) :: st) h :=
  z_putG C pc' U (sL h a k x) hd hF hk ha hcl rfl rfl (fvus_setL (FL_kd hF)) (fun b hb => ⟨fun _ => rfl, rfl, by funext j; simp [sL, hb]⟩) hn kk
theorem z_putR {κ : Kz} {cc : ByteArray} {own : String} {nL fr lo ce sl : Nat} (C : Cz κ cc own nL fr lo ce sl) {n : Nat} {U : List (Nat × Nat)} {cells slots pc : Nat} {ls : List (Nat × Value)} {st : List Value} {h : CH} (pc' : Nat) {idx ci k a : Nat} {fin : Bool} {b : Nat} {ty : FieldType} (U' : List (Nat × Nat)) (hty : (∃ n, ty = .object n) ∨ ∃ t, ty = .array t) (hR : RF a k = some b) (hU : unU U a k = U') (hd : decode cc pc = .ok (.putfield idx, 3)) (hF : FL own idx ci k ty fin 2) (hk : KT.getD a (9, 0) = (0, ci)) (ha : a < n) (hcl : (vwCl[ci]?).map (fun q => (q.2.1 k).1) = some own) (hn : pc + 3 = pc') (kk : Iz κ n U' cells slots pc' ls st h) : Iz κ n U cells slots pc ls (.ref (ksz κ + b) :: .ref (ksz κ + a) :: st) h := by
  subst hU
  exact z_putG C pc' (unU U a k) h hd hF hk ha hcl (by rcases hty with ⟨n, rfl⟩ | ⟨t, rfl⟩ <;> rfl) (by rcases hty with ⟨n, rfl⟩ | ⟨t, rfl⟩ <;> rfl) (fvus_setR (FL_kd hF) hR) (fun b hb => ⟨fun j => by rw [RU_un, if_neg (fun q => hb q.1)], rfl, rfl⟩) hn kk
theorem z_getR {κ : Kz} {cc : ByteArray} {own : String} {nL fr lo ce sl : Nat} (C : Cz κ cc own nL fr lo ce sl) {n : Nat} {U : List (Nat × Nat)} {cells slots pc : Nat} {ls : List (Nat × Value)} {st : List Value} {h : CH} (pc' : Nat) {idx ci k a : Nat} {fin : Bool} {b : Nat} {ty : FieldType} (hR : RU U a k = some b) (hd : decode cc pc = .ok (.getfield idx, 3)) (hF : FL own idx ci k ty fin 2) (hk : KT.getD a (9, 0) = (0, ci)) (ha : a < n) (hn : pc + 3 = pc') (kk : Iz κ n U cells slots pc' ls (.ref (ksz κ + b) :: st) h) : Iz κ n U cells slots pc ls (.ref (ksz κ + a) :: st) h := by
  obtain ⟨p, l, e, R, s, m, args, below, meth, c, D, cid, sz, Q⟩ := κ
  obtain ⟨⟨hx, hb, hml, hown, hts⟩, hKw, hsz, hfr, hlo, hce2, hsl2, hini⟩ := C
  have hK := hKw.1
  subst hn
  intro hv H locs ls0 hs hP hS hl
  obtain ⟨C1, T1, N1, ty0, hc, hN, hkN, hlk, hin, hty, hnm, e1, e2, e3⟩ := hF
  have he2 : (wu cid sz n U h)[a]? = some (sz + a, .inr (ci, fvus sz U h a ci)) := by rw [wu_get ha]; unfold cellU; rw [hk]; rfl
  exact va_get (v := .ref (sz + b)) hx hb hts hin hown hK hP a he2 hc k hkN (hts _ hlk) (fun _ h9 => h9) (by rw [fvus_get (by rw [← hN]; exact hkN)]; unfold fvu; rw [e3, hR]; rfl) hd (kk hv H locs ls0 hs hP hS hl)
theorem z_obj {κ : Kz} {cc : ByteArray} {own : String} {nL fr lo ce sl : Nat} (C : Cz κ cc own nL fr lo ce sl) {n : Nat} {U : List (Nat × Nat)} {cells slots pc : Nat} {ls : List (Nat × Value)} {st : List Value} {h : CH} (pc' : Nat) {idx x : Nat} (hd : decode cc pc = .ok (.invokespecial idx, 3)) (hL : ∀ w ∈ ([.methodLink own idx objectInit, .instanceMethod objectInit, .code objectInit ⟨#[0xb1]⟩ 1 none] : List Cond), w ∈ TS) (h1 : 1 ≤ fr) (h2 : 20 ≤ lo) (hst : (st.map fun v => v.category).sum ≤ 8) (hn : pc + 3 = pc') (kk : Iz κ n U cells slots pc' ls st h) : Iz κ n U cells slots pc ls (.ref x :: st) h := by
  obtain ⟨p, l, e, R, s, m, args, below, meth, c, D, cid, sz, Q⟩ := κ
  obtain ⟨⟨hx, hb, hml, hown, hts⟩, hKw, hsz, hfr, hlo, hce2, hsl2, hini⟩ := C
  have hK := hKw.1
  subst hn
  intro hv H locs ls0 hs hP hS hl
  refine W.objInit hx hb hown (hts _ (hL _ (by simp))) (hts _ (hL _ (by simp))) (hts _ (hL _ (by simp))) rfl hl.1 rfl hd (Nat.le_trans h1 hfr) (by show 2 * 0 + _ + 12 ≤ _; omega) ?_
  exact kk hv H locs ls0 hs hP hS hl
/-- a constructor's contract -/
def MZ (y : MethodName) (b : ByteArray) (nL : Nat) (n0 n1 : Nat) (U0 U1 : List (Nat × Nat)) (fr lo ce sl : Nat) (As : Nat → List Value) (h0 h1 : CH) : Prop :=
  ∀ (l : Launch) (D : va_G) (cid : Nat → ClassId) (sz : Nat), vash n0 h0 →
    Met l y (Cond.code y b nL none :: TS) { frames := fr, cells := ce, slots := sl, locals := lo } (va_Pc (As sz) (fun S => S.heap.size = sz + n0 ∧ va_P D vwCl (wu cid sz n0 U0 h0) S.heap ∧ Kw D cid sz S)) (fun _ st oc t => (oc = .returned none ∧ (vash n1 h1 ∧ t.heap.size = sz + n1 ∧ va_P D vwCl (wu cid sz n1 U1 h1) t.heap)) ∧ va_F (Az sz) st t) ce sl (Az sz)

