/-! making: new cells, fields put -/
theorem AOq.use {A : Array Value} {U : State} (h : AOq U) : (Cond.arrayOver (.array .int)).before A U = true := h
theorem AOq.moved {u U : State} (hvm : u.vm.Alike U.vm) (h : AOq u) : AOq U := by
  unfold AOq Cond.before Cond.holds at h
  simp only [Cond.value, beq_iff_eq] at h
  cases hc : u.vm.findClass (FieldType.array .int).toString with
  | none => simp [hc] at h
  | some comp =>
    simp only [hc, Option.bind_some, Option.bind_eq_some_iff, Option.map_eq_some_iff] at h
    obtain ⟨c, h2, k, h3, h4⟩ := h
    obtain ⟨k', hk', he⟩ := hvm.2.2 _ _ h3
    have hi : (U.vm.classes.findIdx? fun (x : Class) => match x.kind with | .array component _ => component == comp | _ => false) = some c := by
      have e1 := va_idx_bare U.vm comp
      have e2 := va_idx_bare u.vm comp
      first | rw [hvm.bare_eq] at e1 | rw [← hvm.bare_eq] at e1
      exact e1.symm.trans (e2.trans h2)
    have hkind : k'.kind = k.kind := by rw [he]
    have f1 : U.vm.findClass (FieldType.array .int).toString = some comp := by rw [hvm.findClass]; exact hc
    have f2 : U.vm.findClass ("[" ++ (FieldType.array .int).toString) = u.vm.findClass ("[" ++ (FieldType.array .int).toString) := by rw [hvm.findClass]
    unfold AOq Cond.before Cond.holds
    simp only [Cond.value]
    rw [f1, Option.bind_some]
    refine (congrArg (fun o : Option Nat => (o.bind (fun c => (U.vm.classes[c]?).map fun (k : Class) => match k.kind with | .array _ ty => decide (ty = FieldType.array .int) && decide (U.vm.findClass ("[" ++ (FieldType.array .int).toString) = some c) | _ => false) == some true)) hi).trans ?_
    simp only [Option.bind_some, hk', Option.map_some, hkind, f2]
    exact (congrArg (fun b : Bool => (some b == some true)) h4).trans rfl
def kdOf (ty : FieldType) : Nat := match ty with
  | .long => 1
  | .float => 3
  | .double => 3
  | .object _ => 2
  | .array _ => 2
  | _ => 0
theorem kd_def {ty : FieldType} (h : kdOf ty ≤ 2) : defaultValue ty = if kdOf ty = 0 then .int 0 else if kdOf ty = 1 then .long 0 else .null := by
  cases ty <;> first | rfl | (exfalso; revert h; decide)
def refsOf (n ci : Nat) : List (Nat × Nat) := ((List.range (FT.getD ci []).length).filter (fun k => (FT.getD ci []).getD k 9 == 2)).map (fun k => (n, k))
theorem refs_in {n ci k : Nat} (hk : k < (FT.getD ci []).length) (h2 : (FT.getD ci []).getD k 9 = 2) : (n, k) ∈ refsOf n ci := List.mem_map.mpr ⟨k, List.mem_filter.mpr ⟨List.mem_range.mpr hk, by rw [h2]; rfl⟩, rfl⟩
theorem RU_new {n a k : Nat} {ks : List (Nat × Nat)} {U : List (Nat × Nat)} (hks : ∀ q ∈ ks, q.1 = n) (ha : a ≠ n) : RU (ks ++ U) a k = RU U a k := by
  unfold RU
  have e : (ks ++ U).contains (a, k) = U.contains (a, k) := by
    rw [Bool.eq_iff_iff, List.contains_iff_mem, List.contains_iff_mem, List.mem_append]
    constructor
    · rintro (g | g)
      · exact absurd (hks _ g) ha
      · exact g
    · exact Or.inr
  rw [e]
theorem RU_in {U : List (Nat × Nat)} {a k : Nat} (h : (a, k) ∈ U) : RU U a k = none := if_pos (by rw [List.contains_iff_mem]; exact h)
def NLk (own : String) (idx ci N : Nat) : Prop := ∃ (C : String) (T : u_T) (ty0 : Nat → FieldType), vwCl[ci]? = some (C, T, N) ∧ N = (FT.getD ci []).length ∧ Cond.classLink own idx C ∈ TS ∧ Cond.instantiable C N ∈ TS ∧ Cond.initialized C ∈ TS ∧ (∀ w ∈ u_ws C T N, w ∈ TS) ∧ (∀ k, k < N → parseFieldDescriptor (T k).2.2.1 = some (ty0 k)) ∧ ∀ k, k < N → kdOf (ty0 k) = (FT.getD ci []).getD k 9 ∧ kdOf (ty0 k) ≤ 2

theorem z_new {κ : Kz} {cc : ByteArray} {own : String} {nL fr lo ce sl : Nat} (C : Cz κ cc own nL fr lo ce sl) {n : Nat} {U : List (Nat × Nat)} {cells slots pc : Nat} {ls : List (Nat × Value)} {st : List Value} {h : CH} (pc' : Nat) {idx ci N : Nat} (U' : List (Nat × Nat)) (hd : decode cc pc = .ok (.new idx, 3)) (hL : NLk own idx ci N) (hk : KT.getD n (9, 0) = (0, ci)) (hU : refsOf n ci ++ U = U') (hce : cells + 1 ≤ ce) (hsl : slots + N ≤ sl) (hn : pc + 3 = pc') (kk : Iz κ (n + 1) U' (cells + 1) (slots + N) pc' ls (.ref (ksz κ + n) :: st) h) : Iz κ n U cells slots pc ls st h := by
  obtain ⟨p, l, e, R, s, m, args, below, meth, c, D, cid, sz, Q⟩ := κ
  obtain ⟨⟨hx, hb, hml, hown, hts⟩, hKw, hsz, hfr, hlo, hce2, hsl2, hini⟩ := C
  have hK := hKw.1
  subst hn
  intro hv H locs ls0 hs hP hS hl
  subst hU
  obtain ⟨C1, T1, ty0, hc, hN, l1, l2, l3, hin, hty, hkd⟩ := hL
  have hKn := hK.1 ci _ hc
  refine W.newcK hx hb hown (hts _ l1) (hts _ l2) (hts _ l3) rfl hd (Nat.le_trans hce hce2) (Nat.le_trans hsl hsl2) hKn.2.1 hs fun H1 kC hkC e1 z1 o1 => ?_
  have hkp : ∀ (k : Nat) (x : Nat × va_E), (wu cid sz n U h)[k]? = some x → H1[x.1]? = H[x.1]? := fun k x hx => o1 x.1 (by have := (hP k x hx).lt; omega)
  have hP1 : va_P D vwCl (wu cid sz (n + 1) (refsOf n ci ++ U) h) H1 := by
    rw [wu_succ, wu_ext (U := U) (fun a ha k => RU_new (fun q hq => by obtain ⟨k2, -, rfl⟩ := List.mem_map.mp hq; rfl) (by omega))]
    refine (hP.kept hkp).app (fun k x hx => ?_)
    have hz : k < 1 := (List.getElem?_eq_some_iff.mp hx).1
    rw [show k = 0 by omega] at hx
    cases hx
    have e : cellU cid sz (refsOf n ci ++ U) h n = .inr (ci, fvus sz (refsOf n ci ++ U) h n ci) := by unfold cellU; rw [hk]; rfl
    rw [e]
    refine ⟨_, hc, (u_born ty0 hts hin hKn hkC e1 hty).to (fun j hj => ?_)⟩
    obtain ⟨g1, g2⟩ := hkd j hj
    have hj2 : j < (FT.getD ci []).length := by rw [← hN]; exact hj
    have hv2 := hv n (Nat.le_refl n)
    unfold vp_V
    rw [kd_def g2, List.getD_eq_getElem?_getD, fvus_get hj2, Option.getD_some, g1]
    unfold fvu
    rw [hv2.1, hv2.2]
    by_cases k0 : (FT.getD ci []).getD j 9 = 0
    · rw [if_pos k0, if_pos k0]
    · rw [if_neg k0, if_neg k0]
      by_cases k1 : (FT.getD ci []).getD j 9 = 1
      · rw [if_pos k1, if_pos k1]
      · rw [if_neg k1, if_neg k1, RU_in (List.mem_append_left _ (refs_in hj2 (by omega)))]
        rfl
  exact kk (fun a ha => hv a (by omega)) H1 locs ls0 (by omega) hP1 ⟨Nat.le_trans hS.1 (by omega), fun x h1 h2 => (o1 x (by have := hS.1; omega)).trans (hS.2.1 x h1 h2), hS.2.2⟩ hl
theorem z_newaI {κ : Kz} {cc : ByteArray} {own : String} {nL fr lo ce sl : Nat} (C : Cz κ cc own nL fr lo ce sl) {n : Nat} {U : List (Nat × Nat)} {cells slots pc : Nat} {ls : List (Nat × Value)} {st : List Value} {h : CH} (pc' : Nat) {x : Int32} {N : Nat} (hd : decode cc pc = .ok (.newarray .int, 2)) (hA : Cond.arrayClass .int ∈ TS) (hk : KT.getD n (9, 0) = (1, N)) (hx0 : ¬ x < 0) (hxN : x.toNatClampNeg = N) (hbs : N * 8 ≤ 536870912) (hce : cells + 1 ≤ ce) (hsl : slots + N ≤ sl) (hn : pc + 2 = pc') (kk : Iz κ (n + 1) U (cells + 1) (slots + N) pc' ls (.ref (ksz κ + n) :: st) h) : Iz κ n U cells slots pc ls (.int x :: st) h := by
  obtain ⟨p, l, e, R, s, m, args, below, meth, c, D, cid, sz, Q⟩ := κ
  obtain ⟨⟨hx, hb, hml, hown, hts⟩, hKw, hsz, hfr, hlo, hce2, hsl2, hini⟩ := C
  have hK := hKw.1
  subst hn
  intro hv H locs ls0 hs hP hS hl
  have hbb : N * componentBytes (newarray.typeOf .int) ≤ 536870912 := by
    have e : componentBytes (newarray.typeOf .int) ≤ 8 := by decide
    exact Nat.le_trans (Nat.mul_le_mul_left N e) hbs
  refine va_newaK (atype := .int) hx hb (hts _ hA) rfl hd rfl hx0 hxN hbb (Nat.le_trans hce hce2) (Nat.le_trans hsl hsl2) hs fun H1 cA e1 z1 o1 hAr hNm => ?_
  have hcA : cA = cid 0 := Option.some.inj (hNm.symm.trans (hK.2 0 (cid 0, .int) rfl).2)
  subst hcA
  have hkp : ∀ (k : Nat) (x : Nat × va_E), (wu cid sz n U h)[k]? = some x → H1[x.1]? = H[x.1]? := fun k x hx => o1 x.1 (by have := (hP k x hx).lt; omega)
  have hP1 : va_P D vwCl (wu cid sz (n + 1) U h) H1 := by
    rw [wu_succ]
    refine (hP.kept hkp).app (fun k x hx => ?_)
    have hz : k < 1 := (List.getElem?_eq_some_iff.mp hx).1
    rw [show k = 0 by omega] at hx
    cases hx
    have e : cellU cid sz U h n = .inl (cid 0, N, .inl (h.1 n)) := by unfold cellU; rw [hk]; rfl
    rw [e]
    have hv2 := hv n (Nat.le_refl n)
    show H1[sz + n]? = some (vp_cell (cid 0) (N, .inl (h.1 n)))
    rw [e1]
    show some (arrV (cid 0) N (fun _ => Value.int 0)) = some (arrV (cid 0) N (fun j => .int (h.1 n j)))
    refine congrArg (fun f => some (arrV (cid 0) N f)) (funext fun j => ?_)
    rw [hv2.1 j]
  exact kk (fun a ha => hv a (by omega)) H1 locs ls0 (by omega) hP1 ⟨Nat.le_trans hS.1 (by omega), fun x h1 h2 => (o1 x (by have := hS.1; omega)).trans (hS.2.1 x h1 h2), hS.2.2⟩ hl
theorem z_newaB {κ : Kz} {cc : ByteArray} {own : String} {nL fr lo ce sl : Nat} (C : Cz κ cc own nL fr lo ce sl) {n : Nat} {U : List (Nat × Nat)} {cells slots pc : Nat} {ls : List (Nat × Value)} {st : List Value} {h : CH} (pc' : Nat) {x : Int32} {N : Nat} (hd : decode cc pc = .ok (.newarray .byte, 2)) (hA : Cond.arrayClass .byte ∈ TS) (hk : KT.getD n (9, 0) = (2, N)) (hx0 : ¬ x < 0) (hxN : x.toNatClampNeg = N) (hbs : N * 8 ≤ 536870912) (hce : cells + 1 ≤ ce) (hsl : slots + N ≤ sl) (hn : pc + 2 = pc') (kk : Iz κ (n + 1) U (cells + 1) (slots + N) pc' ls (.ref (ksz κ + n) :: st) h) : Iz κ n U cells slots pc ls (.int x :: st) h := by
  obtain ⟨p, l, e, R, s, m, args, below, meth, c, D, cid, sz, Q⟩ := κ
  obtain ⟨⟨hx, hb, hml, hown, hts⟩, hKw, hsz, hfr, hlo, hce2, hsl2, hini⟩ := C
  have hK := hKw.1
  subst hn
  intro hv H locs ls0 hs hP hS hl
  have hbb : N * componentBytes (newarray.typeOf .byte) ≤ 536870912 := by
    have e : componentBytes (newarray.typeOf .byte) ≤ 8 := by decide
    exact Nat.le_trans (Nat.mul_le_mul_left N e) hbs
  refine va_newaK (atype := .byte) hx hb (hts _ hA) rfl hd rfl hx0 hxN hbb (Nat.le_trans hce hce2) (Nat.le_trans hsl hsl2) hs fun H1 cA e1 z1 o1 hAr hNm => ?_
  have hcA : cA = cid 1 := Option.some.inj (hNm.symm.trans (hK.2 1 (cid 1, .byte) rfl).2)
  subst hcA
  have hkp : ∀ (k : Nat) (x : Nat × va_E), (wu cid sz n U h)[k]? = some x → H1[x.1]? = H[x.1]? := fun k x hx => o1 x.1 (by have := (hP k x hx).lt; omega)
  have hP1 : va_P D vwCl (wu cid sz (n + 1) U h) H1 := by
    rw [wu_succ]
    refine (hP.kept hkp).app (fun k x hx => ?_)
    have hz : k < 1 := (List.getElem?_eq_some_iff.mp hx).1
    rw [show k = 0 by omega] at hx
    cases hx
    have e : cellU cid sz U h n = .inl (cid 1, N, .inl (h.1 n)) := by unfold cellU; rw [hk]; rfl
    rw [e]
    have hv2 := hv n (Nat.le_refl n)
    show H1[sz + n]? = some (vp_cell (cid 1) (N, .inl (h.1 n)))
    rw [e1]
    show some (arrV (cid 1) N (fun _ => Value.int 0)) = some (arrV (cid 1) N (fun j => .int (h.1 n j)))
    refine congrArg (fun f => some (arrV (cid 1) N f)) (funext fun j => ?_)
    rw [hv2.1 j]
  exact kk (fun a ha => hv a (by omega)) H1 locs ls0 (by omega) hP1 ⟨Nat.le_trans hS.1 (by omega), fun x h1 h2 => (o1 x (by have := hS.1; omega)).trans (hS.2.1 x h1 h2), hS.2.2⟩ hl
theorem z_newaZ {κ : Kz} {cc : ByteArray} {own : String} {nL fr lo ce sl : Nat} (C : Cz κ cc own nL fr lo ce sl) {n : Nat} {U : List (Nat × Nat)} {cells slots pc : Nat} {ls : List (Nat × Value)} {st : List Value} {h : CH} (pc' : Nat) {x : Int32} {N : Nat} (hd : decode cc pc = .ok (.newarray .boolean, 2)) (hA : Cond.arrayClass .boolean ∈ TS) (hk : KT.getD n (9, 0) = (3, N)) (hx0 : ¬ x < 0) (hxN : x.toNatClampNeg = N) (hbs : N * 8 ≤ 536870912) (hce : cells + 1 ≤ ce) (hsl : slots + N ≤ sl) (hn : pc + 2 = pc') (kk : Iz κ (n + 1) U (cells + 1) (slots + N) pc' ls (.ref (ksz κ + n) :: st) h) : Iz κ n U cells slots pc ls (.int x :: st) h := by
  obtain ⟨p, l, e, R, s, m, args, below, meth, c, D, cid, sz, Q⟩ := κ
  obtain ⟨⟨hx, hb, hml, hown, hts⟩, hKw, hsz, hfr, hlo, hce2, hsl2, hini⟩ := C
  have hK := hKw.1
  subst hn
  intro hv H locs ls0 hs hP hS hl
  have hbb : N * componentBytes (newarray.typeOf .boolean) ≤ 536870912 := by
    have e : componentBytes (newarray.typeOf .boolean) ≤ 8 := by decide
    exact Nat.le_trans (Nat.mul_le_mul_left N e) hbs
  refine va_newaK (atype := .boolean) hx hb (hts _ hA) rfl hd rfl hx0 hxN hbb (Nat.le_trans hce hce2) (Nat.le_trans hsl hsl2) hs fun H1 cA e1 z1 o1 hAr hNm => ?_
  have hcA : cA = cid 2 := Option.some.inj (hNm.symm.trans (hK.2 2 (cid 2, .boolean) rfl).2)
  subst hcA
  have hkp : ∀ (k : Nat) (x : Nat × va_E), (wu cid sz n U h)[k]? = some x → H1[x.1]? = H[x.1]? := fun k x hx => o1 x.1 (by have := (hP k x hx).lt; omega)
  have hP1 : va_P D vwCl (wu cid sz (n + 1) U h) H1 := by
    rw [wu_succ]
    refine (hP.kept hkp).app (fun k x hx => ?_)
    have hz : k < 1 := (List.getElem?_eq_some_iff.mp hx).1
    rw [show k = 0 by omega] at hx
    cases hx
    have e : cellU cid sz U h n = .inl (cid 2, N, .inl (h.1 n)) := by unfold cellU; rw [hk]; rfl
    rw [e]
    have hv2 := hv n (Nat.le_refl n)
    show H1[sz + n]? = some (vp_cell (cid 2) (N, .inl (h.1 n)))
    rw [e1]
    show some (arrV (cid 2) N (fun _ => Value.int 0)) = some (arrV (cid 2) N (fun j => .int (h.1 n j)))
    refine congrArg (fun f => some (arrV (cid 2) N f)) (funext fun j => ?_)
    rw [hv2.1 j]
  exact kk (fun a ha => hv a (by omega)) H1 locs ls0 (by omega) hP1 ⟨Nat.le_trans hS.1 (by omega), fun x h1 h2 => (o1 x (by have := hS.1; omega)).trans (hS.2.1 x h1 h2), hS.2.2⟩ hl
theorem z_newaL {κ : Kz} {cc : ByteArray} {own : String} {nL fr lo ce sl : Nat} (C : Cz κ cc own nL fr lo ce sl) {n : Nat} {U : List (Nat × Nat)} {cells slots pc : Nat} {ls : List (Nat × Value)} {st : List Value} {h : CH} (pc' : Nat) {x : Int32} {N : Nat} (hd : decode cc pc = .ok (.newarray .long, 2)) (hA : Cond.arrayClass .long ∈ TS) (hk : KT.getD n (9, 0) = (4, N)) (hx0 : ¬ x < 0) (hxN : x.toNatClampNeg = N) (hbs : N * 8 ≤ 536870912) (hce : cells + 1 ≤ ce) (hsl : slots + N ≤ sl) (hn : pc + 2 = pc') (kk : Iz κ (n + 1) U (cells + 1) (slots + N) pc' ls (.ref (ksz κ + n) :: st) h) : Iz κ n U cells slots pc ls (.int x :: st) h := by
  obtain ⟨p, l, e, R, s, m, args, below, meth, c, D, cid, sz, Q⟩ := κ
  obtain ⟨⟨hx, hb, hml, hown, hts⟩, hKw, hsz, hfr, hlo, hce2, hsl2, hini⟩ := C
  have hK := hKw.1
  subst hn
  intro hv H locs ls0 hs hP hS hl
  have hbb : N * componentBytes (newarray.typeOf .long) ≤ 536870912 := by
    have e : componentBytes (newarray.typeOf .long) ≤ 8 := by decide
    exact Nat.le_trans (Nat.mul_le_mul_left N e) hbs
  refine va_newaK (atype := .long) hx hb (hts _ hA) rfl hd rfl hx0 hxN hbb (Nat.le_trans hce hce2) (Nat.le_trans hsl hsl2) hs fun H1 cA e1 z1 o1 hAr hNm => ?_
  have hcA : cA = cid 3 := Option.some.inj (hNm.symm.trans (hK.2 3 (cid 3, .long) rfl).2)
  subst hcA
  have hkp : ∀ (k : Nat) (x : Nat × va_E), (wu cid sz n U h)[k]? = some x → H1[x.1]? = H[x.1]? := fun k x hx => o1 x.1 (by have := (hP k x hx).lt; omega)
  have hP1 : va_P D vwCl (wu cid sz (n + 1) U h) H1 := by
    rw [wu_succ]
    refine (hP.kept hkp).app (fun k x hx => ?_)
    have hz : k < 1 := (List.getElem?_eq_some_iff.mp hx).1
    rw [show k = 0 by omega] at hx
    cases hx
    have e : cellU cid sz U h n = .inl (cid 3, N, .inr (.inl (h.2 n))) := by unfold cellU; rw [hk]; rfl
    rw [e]
    have hv2 := hv n (Nat.le_refl n)
    show H1[sz + n]? = some (vp_cell (cid 3) (N, .inr (.inl (h.2 n))))
    rw [e1]
    show some (arrV (cid 3) N (fun _ => Value.long 0)) = some (arrV (cid 3) N (fun j => .long (h.2 n j)))
    refine congrArg (fun f => some (arrV (cid 3) N f)) (funext fun j => ?_)
    rw [hv2.2 j]
  exact kk (fun a ha => hv a (by omega)) H1 locs ls0 (by omega) hP1 ⟨Nat.le_trans hS.1 (by omega), fun x h1 h2 => (o1 x (by have := hS.1; omega)).trans (hS.2.1 x h1 h2), hS.2.2⟩ hl
