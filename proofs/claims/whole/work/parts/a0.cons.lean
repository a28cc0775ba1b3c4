/-! THE MACHINE OF MAKING: the heap while the two constructors make it; n cells made, at the addresses sz, sz + 1 ..; U: the references not put yet -/
def RU (U : List (Nat × Nat)) (a k : Nat) : Option Nat := if U.contains (a, k) = true then none else RF a k
def fvu (sz : Nat) (U : List (Nat × Nat)) (h : CH) (a ci k : Nat) : Value := if (FT.getD ci []).getD k 9 = 0 then .int (h.1 a k) else if (FT.getD ci []).getD k 9 = 1 then .long (h.2 a k) else va_rf ((RU U a k).map (fun b => sz + b))
def fvus (sz : Nat) (U : List (Nat × Nat)) (h : CH) (a ci : Nat) : List Value := (List.range (FT.getD ci []).length).map (fvu sz U h a ci)
def cellZ (cid : Nat → ClassId) (sz : Nat) (U : List (Nat × Nat)) (h : CH) (a : Nat) (q : Nat × Nat) : va_E :=
  if q.1 = 0 then .inr (q.2, fvus sz U h a q.2)
  else if q.1 = 1 then .inl (cid 0, q.2, .inl (h.1 a))
  else if q.1 = 2 then .inl (cid 1, q.2, .inl (h.1 a))
  else if q.1 = 3 then .inl (cid 2, q.2, .inl (h.1 a))
  else if q.1 = 4 then .inl (cid 3, q.2, .inr (.inl (h.2 a)))
  else if q.1 = 5 then .inl (cid 4, q.2, .inr (.inr (.inr (.inr (fun j => (RU U a j).map (fun b => sz + b))))))
  else .inl (cid 5, q.2, .inr (.inr (.inr (.inr (fun j => (RU U a j).map (fun b => sz + b))))))
def cellU (cid : Nat → ClassId) (sz : Nat) (U : List (Nat × Nat)) (h : CH) (a : Nat) : va_E := cellZ cid sz U h a (KT.getD a (9, 0))
def wu (cid : Nat → ClassId) (sz n : Nat) (U : List (Nat × Nat)) (h : CH) : va_W := (List.range n).map (fun a => (sz + a, cellU cid sz U h a))
def vash (n : Nat) (h : CH) : Prop := ∀ a, n ≤ a → (∀ k, h.1 a k = 0) ∧ (∀ k, h.2 a k = 0)
def Az (sz : Nat) (q : Nat) : Prop := sz ≤ q
theorem wu_succ {cid : Nat → ClassId} {sz n : Nat} {U : List (Nat × Nat)} {h : CH} : wu cid sz (n + 1) U h = wu cid sz n U h ++ [(sz + n, cellU cid sz U h n)] := by
  unfold wu
  rw [List.range_succ, List.map_append]
  rfl
theorem cellU_ext {cid : Nat → ClassId} {sz : Nat} {U U' : List (Nat × Nat)} {h h' : CH} {a : Nat} (hU : ∀ k, RU U' a k = RU U a k) (h1 : h'.1 a = h.1 a) (h2 : h'.2 a = h.2 a) : cellU cid sz U' h' a = cellU cid sz U h a := by
  have e : (fun j => (RU U' a j).map (fun b => sz + b)) = (fun j => (RU U a j).map (fun b => sz + b)) := by funext j; rw [hU]
  have e3 : ∀ ci, fvu sz U' h' a ci = fvu sz U h a ci := by
    intro ci
    funext j
    unfold fvu
    rw [h1, h2, hU]
  unfold cellU cellZ fvus
  rw [h1, h2, e, e3]
theorem wu_ext {cid : Nat → ClassId} {sz n : Nat} {U U' : List (Nat × Nat)} {h : CH} (hU : ∀ a, a < n → ∀ k, RU U' a k = RU U a k) : wu cid sz n U' h = wu cid sz n U h := by
  unfold wu
  apply List.map_congr_left
  intro a ha
  rw [cellU_ext (hU a (List.mem_range.mp ha)) rfl rfl]
theorem wu_get {cid : Nat → ClassId} {sz n a : Nat} {U : List (Nat × Nat)} {h : CH} (ha : a < n) : (wu cid sz n U h)[a]? = some (sz + a, cellU cid sz U h a) := by
  unfold wu
  rw [List.getElem?_map, List.getElem?_range ha]
  rfl
theorem wu_len {cid : Nat → ClassId} {sz n : Nat} {U : List (Nat × Nat)} {h : CH} : (wu cid sz n U h).length = n := by simp [wu]
theorem wu_set {cid : Nat → ClassId} {sz n a : Nat} {U U' : List (Nat × Nat)} {h h' : CH} (he : ∀ b, b ≠ a → cellU cid sz U' h' b = cellU cid sz U h b) : (wu cid sz n U h).set a (sz + a, cellU cid sz U' h' a) = wu cid sz n U' h' := by
  apply List.ext_getElem?
  intro j
  rw [List.getElem?_set, wu_len]
  by_cases hj : j < n
  · by_cases e : a = j
    · subst e
      rw [if_pos rfl, if_pos hj, wu_get hj]
    · rw [if_neg e, wu_get hj, wu_get hj, he j (fun q => e q.symm)]
  · by_cases e : a = j
    · subst e
      rw [if_pos rfl, if_neg hj, List.getElem?_eq_none (by rw [wu_len]; omega)]
    · rw [if_neg e, List.getElem?_eq_none (by rw [wu_len]; omega), List.getElem?_eq_none (by rw [wu_len]; omega)]
theorem wu_D {cid : Nat → ClassId} {sz n : Nat} {U : List (Nat × Nat)} {h : CH} : va_D (Az sz) (wu cid sz n U h) := by
  have g : ∀ (k : Nat) (q : Nat × va_E), (wu cid sz n U h)[k]? = some q → q.1 = sz + k := by
    intro k q hq
    have hk : k < n := by
      have := (List.getElem?_eq_some_iff.mp hq).1
      rw [wu_len] at this
      exact this
    rw [wu_get hk] at hq
    cases hq
    rfl
  refine ⟨fun i j p q hp hq e => ?_, fun k q hq => ?_⟩
  · have := g i p hp
    have := g j q hq
    omega
  · have := g k q hq
    show sz ≤ q.1
    omega
theorem fvus_get {sz : Nat} {U : List (Nat × Nat)} {h : CH} {a ci k : Nat} (hk : k < (FT.getD ci []).length) : (fvus sz U h a ci)[k]? = some (fvu sz U h a ci k) := by
  unfold fvus
  rw [List.getElem?_map, List.getElem?_range hk]
  rfl
theorem fvus_len {sz : Nat} {U : List (Nat × Nat)} {h : CH} {a ci : Nat} : (fvus sz U h a ci).length = (FT.getD ci []).length := by simp [fvus]
def wtx : String := "points  face    kind    drift   row     knows   printer blurs   costs   near    bar     sign    when    far     years   light   sum     edge    most    least   at      and     or      not     "
def wby : List Int32 := [112, 111, 105, 110, 116, 115, 32, 32, 102, 97, 99, 101, 32, 32, 32, 32, 107, 105, 110, 100, 32, 32, 32, 32, 100, 114, 105, 102, 116, 32, 32, 32, 114, 111, 119, 32, 32, 32, 32, 32, 107, 110, 111, 119, 115, 32, 32, 32, 112, 114, 105, 110, 116, 101, 114, 32, 98, 108, 117, 114, 115, 32, 32, 32, 99, 111, 115, 116, 115, 32, 32, 32, 110, 101, 97, 114, 32, 32, 32, 32, 98, 97, 114, 32, 32, 32, 32, 32, 115, 105, 103, 110, 32, 32, 32, 32, 119, 104, 101, 110, 32, 32, 32, 32, 102, 97, 114, 32, 32, 32, 32, 32, 121, 101, 97, 114, 115, 32, 32, 32, 108, 105, 103, 104, 116, 32, 32, 32, 115, 117, 109, 32, 32, 32, 32, 32, 101, 100, 103, 101, 32, 32, 32, 32, 109, 111, 115, 116, 32, 32, 32, 32, 108, 101, 97, 115, 116, 32, 32, 32, 97, 116, 32, 32, 32, 32, 32, 32, 97, 110, 100, 32, 32, 32, 32, 32, 111, 114, 32, 32, 32, 32, 32, 32, 110, 111, 116, 32, 32, 32, 32, 32]
def AOq (U : State) : Prop := (Cond.arrayOver (.array .int)).before #[] U = true
/-- the one String constant and what its reading rests on -/
def SZ (sz : Nat) (U : State) : Prop := ∃ adK adV : Nat → Nat, vk_R RX8 62 wtx (adK 0) U ∧ vk_S 1 [192] [wby] adK adV (Az sz) U U.heap ∧ va_Z "java/lang/String" "COMPACT_STRINGS" "Z" (.int 1) (Az sz) U U.heap ∧ va_Zq "jdk/internal/util/Preconditions" "SIOOBE_FORMATTER" "Ljava/util/function/BiFunction;" (Az sz) U U.heap
/-- the private constructors, linked as a nest's mates link -/
def NW (U : State) : Prop := va_Nw (.methodLinkNest RX11 34 yX9_init RX11) U ∧ va_Nw (.methodLinkNest RX11 44 yX5_init RX11) U ∧ va_Nw (.methodLinkNest RX11 54 yX2_init RX11) U
def Kw (D : va_G) (cid : Nat → ClassId) (sz : Nat) (U : State) : Prop := va_K D vwCl (tysOf cid) U ∧ AOq U ∧ va_AO "TwoFaces$Papers" U ∧ NW U ∧ SZ sz U
abbrev Kz : Type _ := Program × Launch × Env × Room × State × MethodId × Array Value × List Frame × Method × Code × va_G × (Nat → ClassId) × Nat × (State → Prop)
def ksz (κ : Kz) : Nat := match κ with
  | (_, _, _, _, _, _, _, _, _, _, _, _, sz, _) => sz
def Iz (κ : Kz) (n : Nat) (U : List (Nat × Nat)) (cells slots pc : Nat) (ls : List (Nat × Value)) (st : List Value) (h : CH) : Prop := match κ with
  | (p, l, e, R, s, m, args, below, meth, c, D, cid, sz, Q) =>
    vash n h → ∀ (H : Heap) (locs : List Loc) (ls0 : Array Slot), H.size = sz + n → va_P D vwCl (wu cid sz n U h) H → va_S (Az sz) s.heap H locs → lv_has ls0 c.maxLocals ls → W p l e R s m args below meth c H locs cells slots Q (F0 m pc ls0 st)
def Cz (κ : Kz) (cc : ByteArray) (own : String) (nL fr lo ce sl : Nat) : Prop := match κ with
  | (p, l, e, R, s, m, args, below, meth, c, D, cid, sz, Q) =>
    CallFix p m c cc nL s args TS own ∧ Kw D cid sz s ∧ sz ≤ s.heap.size ∧ fr ≤ R.frames ∧ lo ≤ R.locals ∧ ce ≤ R.cells ∧ sl ≤ R.slots ∧ meth.name = "<init>"
theorem z_iconst {κ : Kz} {cc : ByteArray} {own : String} {nL fr lo ce sl : Nat} (C : Cz κ cc own nL fr lo ce sl) {n : Nat} {U : List (Nat × Nat)} {cells slots pc : Nat} {ls : List (Nat × Value)} {st : List Value} {h : CH} (pc' : Nat) {i : Int} (w : Int32) (hw : Int32.ofInt i = w) (hd : decode cc pc = .ok (.iconst i, 1)) (hn : pc + 1 = pc') (k : Iz κ n U cells slots pc' ls (.int w :: st) h) : Iz κ n U cells slots pc ls st h := by
  obtain ⟨p, l, e, R, s, m, args, below, meth, c, D, cid, sz, Q⟩ := κ
  obtain ⟨⟨hx, hb, hml, hown, hts⟩, -⟩ := C
  subst hn
  intro hv H locs ls0 hs hP hS hl
  exact lv_iconst hx hb hd hw (k hv H locs ls0 hs hP hS hl)
theorem z_bipush {κ : Kz} {cc : ByteArray} {own : String} {nL fr lo ce sl : Nat} (C : Cz κ cc own nL fr lo ce sl) {n : Nat} {U : List (Nat × Nat)} {cells slots pc : Nat} {ls : List (Nat × Value)} {st : List Value} {h : CH} (pc' : Nat) {i : Int} (w : Int32) (hw : (Int8.ofInt i).toInt32 = w) (hd : decode cc pc = .ok (.bipush i, 2)) (hn : pc + 2 = pc') (k : Iz κ n U cells slots pc' ls (.int w :: st) h) : Iz κ n U cells slots pc ls st h := by
  obtain ⟨p, l, e, R, s, m, args, below, meth, c, D, cid, sz, Q⟩ := κ
  obtain ⟨⟨hx, hb, hml, hown, hts⟩, -⟩ := C
  subst hn
  intro hv H locs ls0 hs hP hS hl
  exact lv_bipush hx hb hd hw (k hv H locs ls0 hs hP hS hl)
theorem z_sipush {κ : Kz} {cc : ByteArray} {own : String} {nL fr lo ce sl : Nat} (C : Cz κ cc own nL fr lo ce sl) {n : Nat} {U : List (Nat × Nat)} {cells slots pc : Nat} {ls : List (Nat × Value)} {st : List Value} {h : CH} (pc' : Nat) {i : Int} (w : Int32) (hw : (Int16.ofInt i).toInt32 = w) (hd : decode cc pc = .ok (.sipush i, 3)) (hn : pc + 3 = pc') (k : Iz κ n U cells slots pc' ls (.int w :: st) h) : Iz κ n U cells slots pc ls st h := by
  obtain ⟨p, l, e, R, s, m, args, below, meth, c, D, cid, sz, Q⟩ := κ
  obtain ⟨⟨hx, hb, hml, hown, hts⟩, -⟩ := C
  subst hn
  intro hv H locs ls0 hs hP hS hl
  exact lv_sipush hx hb hd hw (k hv H locs ls0 hs hP hS hl)
theorem z_lconst {κ : Kz} {cc : ByteArray} {own : String} {nL fr lo ce sl : Nat} (C : Cz κ cc own nL fr lo ce sl) {n : Nat} {U : List (Nat × Nat)} {cells slots pc : Nat} {ls : List (Nat × Value)} {st : List Value} {h : CH} (pc' : Nat) {i : Fin 2} (w : Int64) (hw : Int64.ofNat (i : Nat) = w) (hd : decode cc pc = .ok (.lconst i, 1)) (hn : pc + 1 = pc') (k : Iz κ n U cells slots pc' ls (.long w :: st) h) : Iz κ n U cells slots pc ls st h := by
  obtain ⟨p, l, e, R, s, m, args, below, meth, c, D, cid, sz, Q⟩ := κ
  obtain ⟨⟨hx, hb, hml, hown, hts⟩, -⟩ := C
  subst hn
  intro hv H locs ls0 hs hP hS hl
  exact lv_lconst hx hb hd hw (k hv H locs ls0 hs hP hS hl)
theorem z_aload {κ : Kz} {cc : ByteArray} {own : String} {nL fr lo ce sl : Nat} (C : Cz κ cc own nL fr lo ce sl) {n : Nat} {U : List (Nat × Nat)} {cells slots pc : Nat} {ls : List (Nat × Value)} {st : List Value} {h : CH} (pc' : Nat) {i : Fin 4} {x : Nat} (j : Nat) (hj : ls[j]? = some ((i : Nat), .ref x)) (hd : decode cc pc = .ok (.aload_n i, 1)) (hn : pc + 1 = pc') (k : Iz κ n U cells slots pc' ls (.ref x :: st) h) : Iz κ n U cells slots pc ls st h := by
  obtain ⟨p, l, e, R, s, m, args, below, meth, c, D, cid, sz, Q⟩ := κ
  obtain ⟨⟨hx, hb, hml, hown, hts⟩, -⟩ := C
  subst hn
  intro hv H locs ls0 hs hP hS hl
  exact lv_aload_n hx hb hd rfl (lv_at hl j hj) (k hv H locs ls0 hs hP hS hl)
theorem z_dup {κ : Kz} {cc : ByteArray} {own : String} {nL fr lo ce sl : Nat} (C : Cz κ cc own nL fr lo ce sl) {n : Nat} {U : List (Nat × Nat)} {cells slots pc : Nat} {ls : List (Nat × Value)} {st : List Value} {h : CH} (pc' : Nat) {x : Nat} (hd : decode cc pc = .ok (.dup, 1)) (hn : pc + 1 = pc') (k : Iz κ n U cells slots pc' ls (.ref x :: .ref x :: st) h) : Iz κ n U cells slots pc ls (.ref x :: st) h := by
  obtain ⟨p, l, e, R, s, m, args, below, meth, c, D, cid, sz, Q⟩ := κ
  obtain ⟨⟨hx, hb, hml, hown, hts⟩, -⟩ := C
  subst hn
  intro hv H locs ls0 hs hP hS hl
  exact lv_dup hx hb hd rfl (k hv H locs ls0 hs hP hS hl)
