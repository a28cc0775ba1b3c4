/-! making: arrays of references -/
theorem arrV_ext {cI : ClassId} {N : Nat} {f g : Nat → Value} (h : ∀ j, j < N → f j = g j) : arrV cI N f = arrV cI N g := by
  unfold arrV
  have e : (Array.ofFn (n := N) fun j => f j.val) = Array.ofFn (n := N) fun j => g j.val := by
    apply congrArg
    funext j
    exact h j.val j.isLt
  rw [e]
def refsN (n N : Nat) : List (Nat × Nat) := (List.range N).map (fun k => (n, k))
theorem z_anew {κ : Kz} {cc : ByteArray} {own : String} {nL fr lo ce sl : Nat} (C : Cz κ cc own nL fr lo ce sl) {n : Nat} {U : List (Nat × Nat)} {cells slots pc : Nat} {ls : List (Nat × Value)} {st : List Value} {h : CH} (pc' : Nat) {idx : Nat} {x : Int32} {N : Nat} (U' : List (Nat × Nat)) (hd : decode cc pc = .ok (.anewarray idx, 3)) (hA : Cond.classLink own idx "TwoFaces$Papers" ∈ TS) (hk : KT.getD n (9, 0) = (6, N)) (hU : refsN n N ++ U = U') (hx0 : ¬ x < 0) (hxN : x.toNatClampNeg = N) (hbs : N * 4 ≤ 536870912) (hce : cells + 1 ≤ ce) (hsl : slots + N ≤ sl) (hn : pc + 3 = pc') (kk : Iz κ (n + 1) U' (cells + 1) (slots + N) pc' ls (.ref (ksz κ + n) :: st) h) : Iz κ n U cells slots pc ls (.int x :: st) h := by
  obtain ⟨p, l, e, R, s, m, args, below, meth, c, D, cid, sz, Q⟩ := κ
  obtain ⟨⟨hx, hb, hml, hown, hts⟩, hKw, hsz, hfr, hlo, hce2, hsl2, hini⟩ := C
  have hK := hKw.1
  subst hn
  intro hv H locs ls0 hs hP hS hl
  subst hU
  subst hxN
  refine W.anew (g := F0 m pc ls0 (.int x :: st)) (rest := st) hx hb hown (hts _ hA) (va_AO.use hKw.2.2.1) rfl hd rfl hx0 hbs (Nat.le_trans hce hce2) (Nat.le_trans hsl hsl2) fun cA kA comp f1 f2 f3 f4 => ?_
  obtain ⟨kA2, comp2, k1, k2, k3, k4⟩ := (hK.2 5 (cid 5, .object "TwoFaces$Papers") rfl).2
  have hcA : cA = cid 5 := Option.some.inj (f1.symm.trans k4)
  subst hcA
  have e0 : ({ cls := cid 5, slots := Array.replicate x.toNatClampNeg .null, vm := .none } : Cell) = arrV (cid 5) x.toNatClampNeg (fun _ => .null) := arrV_new _ _ _
  rw [e0]
  have o1 : ∀ q : Nat, q < H.size → (H.push (arrV (cid 5) x.toNatClampNeg (fun _ => .null)))[q]? = H[q]? := fun q hq => by rw [Array.getElem?_push, if_neg (Nat.ne_of_lt hq)]
  have hkp : ∀ (k : Nat) (y : Nat × va_E), (wu cid sz n U h)[k]? = some y → (H.push (arrV (cid 5) x.toNatClampNeg (fun _ => .null)))[y.1]? = H[y.1]? := fun k y hy => o1 y.1 ((hP k y hy).lt)
  have hP1 : va_P D vwCl (wu cid sz (n + 1) (refsN n x.toNatClampNeg ++ U) h) (H.push (arrV (cid 5) x.toNatClampNeg (fun _ => .null))) := by
    rw [wu_succ, wu_ext (U := U) (fun a ha k => RU_new (fun q hq => by obtain ⟨k2, -, rfl⟩ := List.mem_map.mp hq; rfl) (by omega))]
    refine (hP.kept hkp).app (fun k y hy => ?_)
    have hz : k < 1 := (List.getElem?_eq_some_iff.mp hy).1
    rw [show k = 0 by omega] at hy
    cases hy
    have e : cellU cid sz (refsN n x.toNatClampNeg ++ U) h n = .inl (cid 5, x.toNatClampNeg, .inr (.inr (.inr (.inr (fun j => (RU (refsN n x.toNatClampNeg ++ U) n j).map (fun b => sz + b)))))) := by unfold cellU; rw [hk]; rfl
    rw [e]
    show (H.push (arrV (cid 5) x.toNatClampNeg (fun _ => .null)))[sz + n]? = some (vp_cell (cid 5) (x.toNatClampNeg, .inr (.inr (.inr (.inr (fun j => (RU (refsN n x.toNatClampNeg ++ U) n j).map (fun b => sz + b)))))))
    rw [← hs, Array.getElem?_push_size]
    refine congrArg some ?_
    show arrV (cid 5) x.toNatClampNeg (fun _ => .null) = arrV (cid 5) x.toNatClampNeg (fun j => va_rf ((RU (refsN n x.toNatClampNeg ++ U) n j).map (fun b => sz + b)))
    refine arrV_ext (fun j hj => ?_)
    rw [RU_in (U := refsN n x.toNatClampNeg ++ U) (a := n) (k := j) (List.mem_append_left _ (List.mem_map.mpr ⟨j, List.mem_range.mpr hj, rfl⟩))]
    rfl
  have z1 : (H.push (arrV (cid 5) x.toNatClampNeg (fun _ => .null))).size = H.size + 1 := Array.size_push ..
  have q := kk (fun a ha => hv a (by omega)) _ locs ls0 (by omega) hP1 ⟨Nat.le_trans hS.1 (by omega), fun y h1 h2 => (o1 y (by have := hS.1; omega)).trans (hS.2.1 y h1 h2), hS.2.2⟩ hl
  have e9 : ksz (p, l, e, R, s, m, args, below, meth, c, D, cid, sz, Q) + n = H.size := hs.symm
  rw [e9] at q
  exact q
theorem z_aast {κ : Kz} {cc : ByteArray} {own : String} {nL fr lo ce sl : Nat} (C : Cz κ cc own nL fr lo ce sl) {n : Nat} {U : List (Nat × Nat)} {cells slots pc : Nat} {ls : List (Nat × Value)} {st : List Value} {h : CH} (pc' : Nat) {a v N ci : Nat} {i : Int32} {k : Nat} (U' : List (Nat × Nat)) (hd : decode cc pc = .ok (.aastore, 1)) (hk : KT.getD a (9, 0) = (6, N)) (ha : a < n) (hkv : KT.getD v (9, 0) = (0, ci)) (hv2 : v < n) (hci : (vwCl[ci]?).map (fun q => q.1) = some "TwoFaces$Papers") (hR : RF a k = some v) (hi0 : ¬ i < 0) (hik : i.toNatClampNeg = k) (hkN : k < N) (hU : unU U a k = U') (hn : pc + 1 = pc') (kk : Iz κ n U' cells slots pc' ls st h) : Iz κ n U cells slots pc ls (.ref (ksz κ + v) :: .int i :: .ref (ksz κ + a) :: st) h := by
  obtain ⟨p, l, e, R, s, m, args, below, meth, c, D, cid, sz, Q⟩ := κ
  obtain ⟨⟨hx, hb, hml, hown, hts⟩, hKw, hsz, hfr, hlo, hce2, hsl2, hini⟩ := C
  have hK := hKw.1
  subst hn
  intro hv H locs ls0 hs hP hS hl
  subst hU
  have hea : (wu cid sz n U h)[a]? = some (sz + a, .inl (cid 5, N, .inr (.inr (.inr (.inr (fun j => (RU U a j).map (fun b => sz + b))))))) := by rw [wu_get ha]; unfold cellU; rw [hk]; rfl
  have hev : (wu cid sz n U h)[v]? = some (sz + v, .inr (ci, fvus sz U h v ci)) := by rw [wu_get hv2]; unfold cellU; rw [hkv]; rfl
  obtain ⟨r, hr, cellV, g1, g2, g3, -⟩ := hP v _ hev
  have hcls := (hK.1 ci r hr).2
  have hrn : r.1 = "TwoFaces$Papers" := by
    have hr' : vwCl[ci]? = some r := hr
    rw [hr'] at hci
    exact Option.some.inj hci
  obtain ⟨kA, comp, k1, k2, k3, -⟩ := (hK.2 5 (cid 5, .object "TwoFaces$Papers") rfl).2
  have hcomp : comp = D.1 ci := Option.some.inj (k3.symm.trans (by rw [← hrn]; exact hcls.1))
  subst hcomp
  obtain ⟨kC, hkC, -⟩ := hcls.2
  have hH : H[sz + a]? = some (vp_cell (cid 5) (N, .inr (.inr (.inr (.inr (fun j => (RU U a j).map (fun b => sz + b))))))) := hP a _ hea
  refine W.aast (g := F0 m pc ls0 (.ref (sz + v) :: .int i :: .ref (sz + a) :: st)) (rest := st) hx hb hH (fun q h => by cases h) (fun h => by cases h) k1 k2 rfl hkC ⟨hi0, by show _ < (arrV _ _ _).slots.size; rw [arrV_size, hik]; exact hkN⟩ g1 (fun q h => by rw [g3] at h; cases h) (by rw [g2]; exact hkC) (by rw [g2]; exact va_assign hcls) rfl rfl hd fun H1 e1 z1 oq => ?_
  have hat : va_at D vwCl (sz + a, cellU cid sz (unU U a k) h a) H1 := by
    have e : cellU cid sz (unU U a k) h a = .inl (cid 5, N, .inr (.inr (.inr (.inr (fun j => (RU (unU U a k) a j).map (fun b => sz + b)))))) := by unfold cellU; rw [hk]; rfl
    rw [e]
    show H1[sz + a]? = some (vp_cell (cid 5) (N, .inr (.inr (.inr (.inr (fun j => (RU (unU U a k) a j).map (fun b => sz + b)))))))
    rw [e1, hik]
    refine congrArg some ?_
    show (arrV (cid 5) N (fun j => va_rf ((RU U a j).map (fun b => sz + b)))).setSlot k (.ref (sz + v)) = arrV (cid 5) N (fun j => va_rf ((RU (unU U a k) a j).map (fun b => sz + b)))
    rw [arrV_store]
    refine arrV_ext (fun j hj => ?_)
    unfold updV
    rw [RU_un]
    by_cases hjk : j = k
    · rw [if_pos hjk, if_pos ⟨rfl, hjk⟩, hR]
      rfl
    · rw [if_neg hjk, if_neg (fun q => hjk q.2)]
  have hP1 := hP.set wu_D hea hat oq
  rw [wu_set (fun b hb => cellU_ext (fun j => by rw [RU_un, if_neg (fun q => hb q.1)]) rfl rfl)] at hP1
  exact kk hv H1 _ ls0 (by omega) hP1 (hS.put z1 oq (Nat.le_add_right _ _)) hl
theorem outerC_arr (c : ClassId) (N h0 : Nat) (i : Nat) : Jvm.Free.Multi.outerC c N h0 i = arrV c N (fun j => if j < i then .ref (h0 + 1 + j) else .null) := by
  induction i with
  | zero =>
    have e : Jvm.Free.Multi.outerC c N h0 0 = arrV c N (fun _ => .null) := arrV_new c N .null
    rw [e]
    exact arrV_ext (fun j _ => by rw [if_neg (Nat.not_lt_zero j)])
  | succ i ih =>
    have e : Jvm.Free.Multi.outerC c N h0 (i + 1) = (Jvm.Free.Multi.outerC c N h0 i).setSlot i (.ref (h0 + 1 + i)) := rfl
    rw [e, ih, arrV_store]
    refine arrV_ext (fun j _ => ?_)
    unfold updV
    by_cases h1 : j = i
    · subst h1
      rw [if_pos rfl, if_pos (Nat.lt_succ_self j)]
    · rw [if_neg h1]
      dsimp only
      by_cases h2 : j < i
      · rw [if_pos h2, if_pos (by omega)]
      · rw [if_neg h2, if_neg (by omega)]
theorem z_mna {κ : Kz} {cc : ByteArray} {own : String} {nL fr lo ce sl : Nat} (C : Cz κ cc own nL fr lo ce sl) {n : Nat} {U : List (Nat × Nat)} {cells slots pc : Nat} {ls : List (Nat × Value)} {st : List Value} {h : CH} (pc' : Nat) {idx : Nat} {x y : Int32} {N K : Nat} (c1 c2 : Nat) (hd : decode cc pc = .ok (.multianewarray idx 2, 4)) (hA : Cond.classLink own idx "[[I" ∈ TS) (hA2 : Cond.arrayClass .int ∈ TS) (hk : KT.getD n (9, 0) = (5, N)) (hki : ∀ j, j < N → KT.getD (n + 1 + j) (9, 0) = (1, K)) (hR : ∀ j, j < N → RF n j = some (n + 1 + j)) (hfr0 : ∀ q ∈ U, q.1 < n) (hx0 : ¬ x < 0) (hxN : x.toNatClampNeg = N) (hy0 : ¬ y < 0) (hyK : y.toNatClampNeg = K) (hb1 : N * 4 ≤ 536870912) (hb2 : K * 4 ≤ 536870912) (hce : cells + (1 + N) ≤ ce) (hsl : slots + (N + N * K) ≤ sl) (hc1 : cells + 1 + N = c1) (hc2 : slots + N + N * K = c2) (hn : pc + 4 = pc') (kk : Iz κ (n + 1 + N) U c1 c2 pc' ls (.ref (ksz κ + n) :: st) h) : Iz κ n U cells slots pc ls (.int y :: .int x :: st) h := by
  obtain ⟨p, l, e, R, s, m, args, below, meth, c, D, cid, sz, Q⟩ := κ
  obtain ⟨⟨hx, hb, hml, hown, hts⟩, hKw, hsz, hfr, hlo, hce2, hsl2, hini⟩ := C
  have hK := hKw.1
  subst hn
  intro hv H locs ls0 hs hP hS hl
  subst hc1
  subst hc2
  subst hxN
  subst hyK
  intro T hT Xs
  obtain ⟨vm₁, cA, comp, -, fA, fC, -, -, X', step⟩ := Xs.multianewarray2F hx (own := own) (index := idx) (ty := .int) hown (hts _ hA) (AOq.use hKw.2.1) (hts _ hA2) (g := F0 m pc ls0 (.int y :: .int x :: st)) rfl (by rw [hb]; exact hd) (n := x) (k := y) (rest := st) rfl hx0 hy0 hb1 hb2 (by omega) rfl rfl (Nat.le_trans hce hce2) (Nat.le_trans hsl hsl2)
  have hcA : cA = cid 4 := Option.some.inj (fA.symm.trans (hK.2 4 (cid 4, .array .int) rfl).2)
  have hcc : comp = cid 0 := Option.some.inj (fC.symm.trans (hK.2 0 (cid 0, .int) rfl).2)
  subst hcA
  subst hcc
  have hTh : (T.setVm vm₁).heap = H := hT
  obtain ⟨f1, f2, -, -⟩ := Jvm.Free.Multi.fill_facts (T.setVm vm₁) (cid 4) (cid 0) x.toNatClampNeg y.toNatClampNeg (defaultValue .int) x.toNatClampNeg
  have hold : ∀ q : Nat, q < H.size → (Jvm.Free.Multi.fill (T.setVm vm₁) (cid 4) (cid 0) x.toNatClampNeg y.toNatClampNeg (defaultValue .int) x.toNatClampNeg).heap[q]? = H[q]? := fun q hq => by
    have := Jvm.Free.Multi.fill_old (T.setVm vm₁) (cid 4) (cid 0) x.toNatClampNeg y.toNatClampNeg (defaultValue .int) (a := q) (by rw [hTh]; exact hq) x.toNatClampNeg
    rw [hTh] at this
    exact this
  have hrow : ∀ j : Nat, j < x.toNatClampNeg → (Jvm.Free.Multi.fill (T.setVm vm₁) (cid 4) (cid 0) x.toNatClampNeg y.toNatClampNeg (defaultValue .int) x.toNatClampNeg).heap[H.size + 1 + j]? = some (Jvm.Free.Multi.innerC (cid 0) y.toNatClampNeg (defaultValue .int)) := fun j hj => by
    have := Jvm.Free.Multi.fill_inner (T.setVm vm₁) (cid 4) (cid 0) x.toNatClampNeg y.toNatClampNeg (defaultValue .int) x.toNatClampNeg j hj
    rw [hTh] at this
    exact this
  rw [hTh] at f1 f2
  have eT : T.heap.size = H.size := by rw [hT]
  rw [eT] at step
  generalize Jvm.Free.Multi.fill (T.setVm vm₁) (cid 4) (cid 0) x.toNatClampNeg y.toNatClampNeg (defaultValue .int) x.toNatClampNeg = F at X' step f1 f2 hold hrow
  have hP1 : va_P D vwCl (wu cid sz (n + 1 + x.toNatClampNeg) U h) F.heap := by
    intro k q hq
    have hk1 : k < n + 1 + x.toNatClampNeg := by
      have := (List.getElem?_eq_some_iff.mp hq).1
      rw [wu_len] at this
      exact this
    rw [wu_get hk1] at hq
    cases hq
    rcases Nat.lt_trichotomy k n with g | g | g
    · exact (hP.kept (fun k2 y2 hy => hold y2.1 ((hP k2 y2 hy).lt))) k _ (wu_get g)
    · subst g
      have e : cellU cid sz U h k = .inl (cid 4, x.toNatClampNeg, .inr (.inr (.inr (.inr (fun j => (RU U k j).map (fun b => sz + b)))))) := by unfold cellU; rw [hk]; rfl
      rw [e]
      show F.heap[sz + k]? = some (arrV (cid 4) x.toNatClampNeg (fun j => va_rf ((RU U k j).map (fun b => sz + b))))
      rw [← hs, f2, outerC_arr]
      refine congrArg some (arrV_ext (fun j hj => ?_))
      have hU0 : RU U k j = RF k j := if_neg (by
        rw [List.contains_iff_mem]
        intro g2
        have := hfr0 _ g2
        exact Nat.lt_irrefl _ this)
      rw [if_pos hj, hU0, hR j hj, hs]
      show Value.ref _ = Value.ref _
      refine congrArg Value.ref ?_
      show sz + k + 1 + j = sz + (k + 1 + j)
      omega
    · obtain ⟨j, rfl⟩ : ∃ j, k = n + 1 + j := ⟨k - (n + 1), by omega⟩
      have hj : j < x.toNatClampNeg := by omega
      have e : cellU cid sz U h (n + 1 + j) = .inl (cid 0, y.toNatClampNeg, .inl (h.1 (n + 1 + j))) := by unfold cellU; rw [hki j hj]; rfl
      rw [e]
      show F.heap[sz + (n + 1 + j)]? = some (arrV (cid 0) y.toNatClampNeg (fun i => .int (h.1 (n + 1 + j) i)))
      have e2 : sz + (n + 1 + j) = H.size + 1 + j := by omega
      rw [e2, hrow j hj]
      refine congrArg some ?_
      have e3 : Jvm.Free.Multi.innerC (cid 0) y.toNatClampNeg (defaultValue .int) = arrV (cid 0) y.toNatClampNeg (fun _ => .int 0) := arrV_new _ _ _
      rw [e3]
      exact arrV_ext (fun i _ => by rw [(hv (n + 1 + j) (by omega)).1 i])
  obtain ⟨t, a1, b1⟩ := kk (fun a ha => hv a (by omega)) F.heap locs ls0 (by omega) hP1 ⟨Nat.le_trans hS.1 (by omega), fun q h1 h2 => (hold q (by have := hS.1; omega)).trans (hS.2.1 q h1 h2), hS.2.2⟩ hl F rfl X'
  refine ⟨t, step t ?_, b1⟩
  have e9 : ksz (p, l, e, R, s, m, args, below, meth, c, D, cid, sz, Q) + n = H.size := hs.symm
  rw [e9] at a1
  exact a1
