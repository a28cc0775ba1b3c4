/-! ===== BEGIN words of one list among another's, by their places ===== -/
theorem goodIn_r {big : List Cond} (ws : List Cond) (ps : List Nat) (hp : ws = ps.filterMap (fun i => big[i]?)) (h : ws.all goodWord = true) : GoodIn big ws := by
  intro w hw
  have h1 := List.all_eq_true.mp h w hw
  rw [hp] at hw
  obtain ⟨i, -, hi⟩ := List.mem_filterMap.mp hw
  have hm : w ∈ big := by first | exact List.mem_of_getElem? hi | exact List.getElem?_mem hi
  exact ⟨hm, good_of_word h1⟩
theorem goodIn_app {big a b : List Cond} (ha : GoodIn big a) (hb : GoodIn big b) : GoodIn big (a ++ b) := fun w h => (List.mem_append.mp h).elim (ha w) (hb w)
theorem goodIn_ca {big a b : List Cond} {c : Cond} (ha : GoodIn big (c :: a)) (hb : GoodIn big b) : GoodIn big (c :: (a ++ b)) := fun w h => (List.mem_cons.mp h).elim (fun e => ha w (List.mem_cons.mpr (Or.inl e))) (fun h => (List.mem_append.mp h).elim (fun h => ha w (List.mem_cons.mpr (Or.inr h))) (hb w))
theorem goodIn_sub {big ws : List Cond} (hm : ∀ w ∈ ws, w ∈ big) (h : ws.all goodWord = true) : GoodIn big ws := fun w hw => ⟨hm w hw, good_of_word (List.all_eq_true.mp h w hw)⟩
/-! ===== END ===== -/

/-! ===== BEGIN new T[n][m]: the outer array a place, the inner ones among the pooled ===== -/
/-- f, but v at every address of l -/
def vr_up {α : Type} (f : Nat → α) (l : List Nat) (v : α) : Nat → α := fun a => if a ∈ l then v else f a
theorem vr_up_in {α : Type} {f : Nat → α} {l : List Nat} {v : α} {a : Nat} (h : a ∈ l) : vr_up f l v a = v := if_pos h
theorem vr_up_ne {α : Type} {f : Nat → α} {l : List Nat} {v : α} {a : Nat} (h : a ∉ l) : vr_up f l v a = f a := if_neg h
theorem vr_rows {L l : List Nat} {f : Nat → va_E} {e : va_E} (h : ∀ a, a ∈ l → a ∉ L) : va_pl L f ++ l.map (fun a => (a, e)) = va_pl (L ++ l) (vr_up f l e) := by
  unfold va_pl
  rw [List.map_append]
  congr 1
  · apply List.map_congr_left
    intro a ha
    rw [vr_up_ne (fun q => h a q ha)]
  · apply List.map_congr_left
    intro a ha
    rw [vr_up_in ha]
theorem vr_lay {X rows : va_W} {x : Nat × va_E} {pl : va_W} {D : va_G} {cl : List vw_C} {H : Heap} (hP : va_P D cl (((X ++ pl) ++ [x]) ++ rows) H) : va_P D cl ((X ++ [x]) ++ (pl ++ rows)) H := by
  rw [List.append_assoc (X ++ pl)] at hP
  have h := va_P.swap hP
  rw [← List.append_assoc X] at h
  have h2 := va_P.swap h
  rw [List.append_assoc (X ++ [x])] at h2
  exact h2
theorem vr_layD {X rows : va_W} {x : Nat × va_E} {pl : va_W} {A : Nat → Prop} (hD : va_D A (((X ++ pl) ++ [x]) ++ rows)) : va_D A ((X ++ [x]) ++ (pl ++ rows)) := by
  rw [List.append_assoc (X ++ pl)] at hD
  have h := va_D.swap hD
  rw [← List.append_assoc X] at h
  have h2 := va_D.swap h
  rw [List.append_assoc (X ++ [x])] at h2
  exact h2
theorem vr_outer (c : ClassId) (N h0 : Nat) : ∀ i : Nat, Jvm.Free.Multi.outerC c N h0 i = arrV c N (fun j => va_rf (if j < i then some (h0 + 1 + j) else none))
  | 0 => by
    show ({ cls := c, slots := Array.replicate N .null, vm := .none } : Cell) = _
    rw [arrV_new]
    refine congrArg (arrV c N) (funext fun j => ?_)
    simp [va_rf]
  | i + 1 => by
    show (Jvm.Free.Multi.outerC c N h0 i).setSlot i (.ref (h0 + 1 + i)) = _
    rw [vr_outer c N h0 i, arrV_store]
    refine congrArg (arrV c N) (funext fun j => ?_)
    by_cases e : j = i
    · subst e
      simp [updV, va_rf]
    · by_cases h : j < i
      · simp [updV, e, h, Nat.lt_succ_of_lt h]
      · simp [updV, e, h, show ¬ j < i + 1 by omega]
section VGM
variable {p : Program} {l : Launch} {e : Env} {R : Room} {s : State} {m : MethodId} {args : Array Value} {below : List Frame} {meth : Method} {c : Code} {H : Heap} {locs : List Loc} {cells slots : Nat} {Q : State → Prop}
variable {cc : ByteArray} {pc : Nat} {ls : Array Slot} {rest : List Value} {D : va_G} {cl : List vw_C} {A : Nat → Prop} {a : Nat} {tys : List (ClassId × FieldType)} {ws : va_W} {H0 : Heap}
theorem va_mna {X : va_W} {L : List Nat} {f : Nat → va_E} {cc : ByteArray} (hexec : p.tables.exec = Jvm.exec) (hb : c.code = cc) {own : String} {index : Nat} {ty : FieldType} {cy : ClassId} (hown : s.vm.findClass own = some m.cls) (hclink : (Cond.classLink own index ("[" ++ (FieldType.array ty).toString)).before args s = true) (hover : va_AOA ty s) (harr : (Cond.arrayClass ty).before args s = true) (hcy : s.vm.findClass (FieldType.array ty).toString = some cy)
    (hK : va_K D cl tys s) (hP : va_P D cl (X ++ va_pl L f) H) (hD : va_D A (X ++ va_pl L f)) (hS : va_S A H0 H locs) (hA : ∀ q, H0.size ≤ q → A q) {n k : Int32} {N' K' : Nat} {z : vp_A} (hn : ¬ n < 0) (hk : ¬ k < 0) (hN : n.toNatClampNeg = N') (hM : k.toNatClampNeg = K')
    (hb1 : N' * 4 ≤ 536870912) (hb2 : K' * componentBytes ty ≤ 536870912) (hb3 : K' ≤ 536870912) (hdf : fits ty (defaultValue ty) = true) (hdd : (defaultValue ty).isDefault = true) (hcells : cells + (1 + N') ≤ R.cells) (hslots : slots + (N' + N' * K') ≤ R.slots) (hz : ∀ c : ClassId, Jvm.Free.Multi.innerC c K' (defaultValue ty) = vp_cell c z) (hdg : decode cc pc = .ok (.multianewarray index 2, 4))
    (kk : ∀ (q : Nat) (r : Nat → Nat) (cA : ClassId) (H1 : Heap), (∀ i j : Nat, i < N' → j < N' → r i = r j → i = j) → (∀ i : Nat, i < N' → r i ∉ L) → va_K D cl (tys ++ [(cA, .array ty)]) s →
      va_P D cl ((X ++ [(q, .inl (cA, N', .inr (.inr (.inr (.inr (fun i => if i < N' then some (r i) else none))))))]) ++ va_pl (L ++ (List.range N').map r) (vr_up f ((List.range N').map r) (.inl (cy, z)))) H1 → va_D A ((X ++ [(q, .inl (cA, N', .inr (.inr (.inr (.inr (fun i => if i < N' then some (r i) else none))))))]) ++ va_pl (L ++ (List.range N').map r) (vr_up f ((List.range N').map r) (.inl (cy, z)))) → va_S A H0 H1 locs →
      W p l e R s m args below meth c H1 locs (cells + 1 + N') (slots + N' + N' * K') Q (F0 m (pc + 4) ls (.ref q :: rest))) : W p l e R s m args below meth c H locs cells slots Q (F0 m pc ls (.int k :: .int n :: rest)) := by
  subst hN
  subst hM
  intro T hT Xs
  obtain ⟨vm₁, cA, comp, -, fA, fC, hO, -, X', step⟩ := Xs.multianewarray2F hexec hown hclink (va_AOA.use hover) harr (g := F0 m pc ls (.int k :: .int n :: rest)) rfl (by rw [hb]; exact hdg) rfl hn hk hb1 hb2 hb3 hdf hdd hcells hslots
  have ec : some cy = some comp := hcy.symm.trans fC
  cases ec
  generalize hF : Jvm.Free.Multi.fill (T.setVm vm₁) cA cy n.toNatClampNeg k.toNatClampNeg (defaultValue ty) n.toNatClampNeg = F at X' step
  have hTh : (T.setVm vm₁).heap = H := hT
  obtain ⟨f1, f2, -, -⟩ := Jvm.Free.Multi.fill_facts (T.setVm vm₁) cA cy n.toNatClampNeg k.toNatClampNeg (defaultValue ty) n.toNatClampNeg
  rw [hF, hTh] at f1 f2
  have hold : ∀ x : Nat, x < H.size → F.heap[x]? = H[x]? := fun x hx => by
    have := Jvm.Free.Multi.fill_old (T.setVm vm₁) cA cy n.toNatClampNeg k.toNatClampNeg (defaultValue ty) (a := x) (by rw [hTh]; exact hx) n.toNatClampNeg
    rw [hF, hTh] at this
    exact this
  have hrow : ∀ j : Nat, j < n.toNatClampNeg → F.heap[H.size + 1 + j]? = some (vp_cell cy z) := fun j hj => by
    have := Jvm.Free.Multi.fill_inner (T.setVm vm₁) cA cy n.toNatClampNeg k.toNatClampNeg (defaultValue ty) n.toNatClampNeg j hj
    rw [hF, hTh, hz] at this
    exact this
  have hout : Jvm.Free.Multi.outerC cA n.toNatClampNeg H.size n.toNatClampNeg = vp_cell cA (n.toNatClampNeg, .inr (.inr (.inr (.inr (fun i => if i < n.toNatClampNeg then some (H.size + 1 + i) else none))))) := by
    rw [vp_cell_q]
    exact vr_outer cA n.toNatClampNeg H.size n.toNatClampNeg
  rw [hout] at f2
  have hlt : ∀ a, a ∈ L → a < H.size := fun a ha => by
    obtain ⟨k9, hk9⟩ := va_pl_get (X := X) (f := f) ha
    exact (hP k9 _ hk9).lt
  have hnl : ∀ i : Nat, i < n.toNatClampNeg → H.size + 1 + i ∉ L := fun i _ h => by
    have := hlt _ h
    omega
  have hnm : ∀ a, a ∈ (List.range n.toNatClampNeg).map (fun i => H.size + 1 + i) → a ∉ L := fun a ha h => by
    obtain ⟨i, -, rfl⟩ := List.mem_map.mp ha
    have := hlt _ h
    omega
  have hP0 : va_P D cl (X ++ va_pl L f) F.heap := hP.kept (fun k9 x hx => hold x.1 ((hP k9 x hx).lt))
  have hP1 : va_P D cl ((X ++ va_pl L f) ++ [(H.size, .inl (cA, n.toNatClampNeg, .inr (.inr (.inr (.inr (fun i => if i < n.toNatClampNeg then some (H.size + 1 + i) else none))))))]) F.heap := hP0.app (fun k9 x hx => by
    have h0 : k9 < 1 := (List.getElem?_eq_some_iff.mp hx).1
    rw [show k9 = 0 by omega] at hx
    cases hx
    exact f2)
  have hP2 : va_P D cl (((X ++ va_pl L f) ++ [(H.size, .inl (cA, n.toNatClampNeg, .inr (.inr (.inr (.inr (fun i => if i < n.toNatClampNeg then some (H.size + 1 + i) else none))))))]) ++ ((List.range n.toNatClampNeg).map (fun i => H.size + 1 + i)).map (fun a => (a, .inl (cy, z)))) F.heap := hP1.app (fun k9 x hx => by
    obtain ⟨a, ha, rfl⟩ := List.mem_map.mp (List.mem_of_getElem? hx)
    obtain ⟨i, hi, rfl⟩ := List.mem_map.mp ha
    exact hrow i (List.mem_range.mp hi))
  have hD2 : va_D A (((X ++ va_pl L f) ++ [(H.size, .inl (cA, n.toNatClampNeg, .inr (.inr (.inr (.inr (fun i => if i < n.toNatClampNeg then some (H.size + 1 + i) else none))))))]) ++ ((List.range n.toNatClampNeg).map (fun i => H.size + 1 + i)).map (fun a => (a, .inl (cy, z)))) := by
    have hD1 := hD.push (e := .inl (cA, n.toNatClampNeg, .inr (.inr (.inr (.inr (fun i => if i < n.toNatClampNeg then some (H.size + 1 + i) else none)))))) hP rfl (hA _ hS.1)
    generalize hW1 : (X ++ va_pl L f) ++ [(H.size, .inl (cA, n.toNatClampNeg, .inr (.inr (.inr (.inr (fun i => if i < n.toNatClampNeg then some (H.size + 1 + i) else none))))))] = W1 at hD1 hP1 ⊢
    have hle : ∀ (k9 : Nat) (x : Nat × va_E), W1[k9]? = some x → x.1 ≤ H.size := fun k9 x hx => by
      rw [← hW1] at hx
      by_cases hl : k9 < (X ++ va_pl L f).length
      · rw [List.getElem?_append_left hl] at hx
        exact Nat.le_of_lt ((hP k9 x hx).lt)
      · rw [List.getElem?_append_right (by omega)] at hx
        have h0 : k9 - (X ++ va_pl L f).length < 1 := (List.getElem?_eq_some_iff.mp hx).1
        rw [show k9 - (X ++ va_pl L f).length = 0 by omega] at hx
        cases hx
        exact Nat.le_refl _
    have hr : ∀ (k9 : Nat) (x : Nat × va_E), (((List.range n.toNatClampNeg).map (fun i => H.size + 1 + i)).map (fun a => ((a, .inl (cy, z)) : Nat × va_E)))[k9]? = some x → x.1 = H.size + 1 + k9 := fun k9 x hx => by
      rw [List.getElem?_map, List.getElem?_map] at hx
      by_cases h9 : k9 < n.toNatClampNeg
      · rw [List.getElem?_range h9] at hx
        cases hx
        rfl
      · have hn0 : (List.range n.toNatClampNeg)[k9]? = none := List.getElem?_eq_none (by rw [List.length_range]; omega)
        rw [hn0] at hx
        cases hx
    refine ⟨fun i j x y hi hj hxy => ?_, fun k9 x hx => ?_⟩
    · by_cases h1 : i < W1.length <;> by_cases h2 : j < W1.length
      · rw [List.getElem?_append_left h1] at hi
        rw [List.getElem?_append_left h2] at hj
        exact hD1.1 i j x y hi hj hxy
      · rw [List.getElem?_append_left h1] at hi
        rw [List.getElem?_append_right (by omega)] at hj
        have := hle _ _ hi
        have := hr _ _ hj
        omega
      · rw [List.getElem?_append_right (by omega)] at hi
        rw [List.getElem?_append_left h2] at hj
        have := hle _ _ hj
        have := hr _ _ hi
        omega
      · rw [List.getElem?_append_right (by omega)] at hi hj
        have := hr _ _ hi
        have := hr _ _ hj
        omega
    · by_cases h1 : k9 < W1.length
      · rw [List.getElem?_append_left h1] at hx
        exact hD1.2 k9 x hx
      · rw [List.getElem?_append_right (by omega)] at hx
        have := hr _ _ hx
        exact hA _ (by have := hS.1; omega)
  have hAr : ArrOfT s cA (.array ty) := fun N9 z9 => by
    obtain ⟨-, k9, hk9, cm9, hkk9⟩ := (hO 0 0 0).1
    exact ⟨(fun q hq => by cases hq), k9, hk9, cm9, hkk9⟩
  have hK2 : va_K D cl (tys ++ [(cA, .array ty)]) s := ⟨hK.1, fun k9 x hx => by
    by_cases hl : k9 < tys.length
    · rw [List.getElem?_append_left hl] at hx
      exact hK.2 k9 x hx
    · rw [List.getElem?_append_right (by omega)] at hx
      have h0 : k9 - tys.length < 1 := (List.getElem?_eq_some_iff.mp hx).1
      rw [show k9 - tys.length = 0 by omega] at hx
      cases hx
      exact ⟨hAr, fA⟩⟩
  obtain ⟨t, a1, b1⟩ := kk H.size (fun i => H.size + 1 + i) cA F.heap (fun i j _ _ h => by have h9 : H.size + 1 + i = H.size + 1 + j := h; omega) hnl hK2 (by rw [← vr_rows hnm]; exact vr_lay hP2) (by rw [← vr_rows hnm]; exact vr_layD hD2) ⟨by rw [f1]; have := hS.1; omega, fun x h1 h2 => (hold x (Nat.lt_of_lt_of_le h1 hS.1)).trans (hS.2.1 x h1 h2), hS.2.2⟩ F rfl X'
  refine ⟨t, step t ?_, b1⟩
  have e : T.heap.size = H.size := by rw [hT]
  rw [e]
  exact a1
end VGM
/-! ===== END ===== -/

def RX0 : String := "TwoFaces$Darkroom"
def TX0 : u_T := fun k => match k with
  | 0 => ("TwoFaces$Darkroom", "town", "LTwoFaces$Town;", true)
  | 1 => ("TwoFaces$Darkroom", "rules", "LTwoFaces$Rules;", true)
  | _ => ("TwoFaces$Darkroom", "picture", "[I", true)
def tyX0 : Nat → FieldType := fun k => match k with
  | 0 => .object "TwoFaces$Town"
  | 1 => .object "TwoFaces$Rules"
  | _ => .array .int
abbrev wsX00 : List Cond := u_ws RX0 TX0 3
theorem nmX0 : ∀ a, a < 3 → ∀ b, b < 3 → a ≠ b → (TX0 a).2.1 ≠ (TX0 b).2.1 := by decide +kernel
theorem tyX0_ok : ∀ k, k < 3 → parseFieldDescriptor (TX0 k).2.2.1 = some (tyX0 k) := by decide +kernel
abbrev cX0_init : ByteArray := prog_2_method_1_code
def yX0_init : MethodName := ⟨RX0, "<init>", "(LTwoFaces$Town;LTwoFaces$Rules;)V"⟩
abbrev cX0_develop : ByteArray := prog_2_method_2_code
def yX0_develop : MethodName := ⟨RX0, "develop", "(IIII)[I"⟩
abbrev cX0_developInto : ByteArray := prog_2_method_3_code
def yX0_developInto : MethodName := ⟨RX0, "developInto", "([IIIII)V"⟩
abbrev cX0_shown : ByteArray := prog_2_method_4_code
def yX0_shown : MethodName := ⟨RX0, "shown", "(IIII)I"⟩
abbrev cX0_caughtPart : ByteArray := prog_2_method_5_code
def yX0_caughtPart : MethodName := ⟨RX0, "caughtPart", "(II)I"⟩
abbrev cX0_caughtOf : ByteArray := prog_2_method_6_code
def yX0_caughtOf : MethodName := ⟨RX0, "caughtOf", "(III)I"⟩
abbrev cX0_commonDivisor : ByteArray := prog_2_method_7_code
def yX0_commonDivisor : MethodName := ⟨RX0, "commonDivisor", "(II)I"⟩
def RX1 : String := "TwoFaces$Gate"
def TX1 : u_T := fun k => match k with
  | 0 => ("TwoFaces$Gate", "town", "LTwoFaces$Town;", true)
  | 1 => ("TwoFaces$Gate", "rules", "LTwoFaces$Rules;", true)
  | 2 => ("TwoFaces$Gate", "live", "[[I", true)
  | 3 => ("TwoFaces$Gate", "own", "[[I", true)
  | 4 => ("TwoFaces$Gate", "mixRow", "[I", true)
  | 5 => ("TwoFaces$Gate", "year", "I", false)
  | _ => ("TwoFaces$Gate", "light", "I", false)
def tyX1 : Nat → FieldType := fun k => match k with
  | 0 => .object "TwoFaces$Town"
  | 1 => .object "TwoFaces$Rules"
  | 2 => .array (.array .int)
  | 3 => .array (.array .int)
  | 4 => .array .int
  | 5 => .int
  | _ => .int
abbrev wsX10 : List Cond := u_ws RX1 TX1 7
theorem nmX1 : ∀ a, a < 7 → ∀ b, b < 7 → a ≠ b → (TX1 a).2.1 ≠ (TX1 b).2.1 := by decide +kernel
theorem tyX1_ok : ∀ k, k < 7 → parseFieldDescriptor (TX1 k).2.2.1 = some (tyX1 k) := by decide +kernel
abbrev cX1_init : ByteArray := prog_3_method_1_code
def yX1_init : MethodName := ⟨RX1, "<init>", "(LTwoFaces$Town;LTwoFaces$Rules;)V"⟩
abbrev cX1_open : ByteArray := prog_3_method_2_code
def yX1_open : MethodName := ⟨RX1, "open", "(II)V"⟩
abbrev cX1_apartFromPicture : ByteArray := prog_3_method_3_code
def yX1_apartFromPicture : MethodName := ⟨RX1, "apartFromPicture", "(II)I"⟩
abbrev cX1_letsInWith : ByteArray := prog_3_method_4_code
def yX1_letsInWith : MethodName := ⟨RX1, "letsInWith", "(II)Z"⟩
abbrev cX1_lets : ByteArray := prog_3_method_5_code
def yX1_lets : MethodName := ⟨RX1, "lets", "(II)Z"⟩
abbrev cX1_makeMix : ByteArray := prog_3_method_6_code
def yX1_makeMix : MethodName := ⟨RX1, "makeMix", "(III)V"⟩
abbrev cX1_apartFromMix : ByteArray := prog_3_method_7_code
def yX1_apartFromMix : MethodName := ⟨RX1, "apartFromMix", "(I)I"⟩
abbrev cX1_whoPasses : ByteArray := prog_3_method_8_code
def yX1_whoPasses : MethodName := ⟨RX1, "whoPasses", "(III)I"⟩
abbrev cX1_bestShare : ByteArray := prog_3_method_9_code
def yX1_bestShare : MethodName := ⟨RX1, "bestShare", "(II)I"⟩
abbrev cX1_isAble : ByteArray := prog_3_method_10_code
def yX1_isAble : MethodName := ⟨RX1, "isAble", "(II)Z"⟩
abbrev cX1_countAble : ByteArray := prog_3_method_11_code
def yX1_countAble : MethodName := ⟨RX1, "countAble", "()I"⟩
abbrev cX1_ableAt : ByteArray := prog_3_method_12_code
def yX1_ableAt : MethodName := ⟨RX1, "ableAt", "(I)I"⟩
abbrev cX1_countFalse : ByteArray := prog_3_method_13_code
def yX1_countFalse : MethodName := ⟨RX1, "countFalse", "(I)I"⟩
abbrev cX1_countHeld : ByteArray := prog_3_method_14_code
def yX1_countHeld : MethodName := ⟨RX1, "countHeld", "(I)I"⟩
abbrev cX1_isOf : ByteArray := prog_3_method_15_code
def yX1_isOf : MethodName := ⟨RX1, "isOf", "(II)Z"⟩
abbrev cX1_countTwins : ByteArray := prog_3_method_16_code
def yX1_countTwins : MethodName := ⟨RX1, "countTwins", "()I"⟩
def RX2 : String := "TwoFaces$Papers"
def TX2 : u_T := fun k => match k with
  | 0 => ("TwoFaces$Papers", "count", "I", false)
  | 1 => ("TwoFaces$Papers", "time", "I", false)
  | 2 => ("TwoFaces$Papers", "isKept", "Z", false)
  | 3 => ("TwoFaces$Papers", "faces", "[I", true)
  | 4 => ("TwoFaces$Papers", "others", "[I", true)
  | 5 => ("TwoFaces$Papers", "shares", "[I", true)
  | 6 => ("TwoFaces$Papers", "places", "[I", true)
  | 7 => ("TwoFaces$Papers", "toldAt", "[I", true)
  | _ => ("TwoFaces$Papers", "untoldAt", "[I", true)
def tyX2 : Nat → FieldType := fun k => match k with
  | 0 => .int
  | 1 => .int
  | 2 => .boolean
  | 3 => .array .int
  | 4 => .array .int
  | 5 => .array .int
  | 6 => .array .int
  | 7 => .array .int
  | _ => .array .int
abbrev wsX20 : List Cond := u_ws RX2 TX2 9
theorem nmX2 : ∀ a, a < 9 → ∀ b, b < 9 → a ≠ b → (TX2 a).2.1 ≠ (TX2 b).2.1 := by decide +kernel
theorem tyX2_ok : ∀ k, k < 9 → parseFieldDescriptor (TX2 k).2.2.1 = some (tyX2 k) := by decide +kernel
abbrev cX2_init : ByteArray := prog_4_method_1_code
def yX2_init : MethodName := ⟨RX2, "<init>", "()V"⟩
abbrev cX2_empty : ByteArray := prog_4_method_2_code
def yX2_empty : MethodName := ⟨RX2, "empty", "()V"⟩
abbrev cX2_copyFrom : ByteArray := prog_4_method_3_code
def yX2_copyFrom : MethodName := ⟨RX2, "copyFrom", "(LTwoFaces$Papers;)V"⟩
abbrev cX2_tell : ByteArray := prog_4_method_4_code
def yX2_tell : MethodName := ⟨RX2, "tell", "(IIII)I"⟩
abbrev cX2_takeBack : ByteArray := prog_4_method_5_code
def yX2_takeBack : MethodName := ⟨RX2, "takeBack", "(I)Z"⟩
abbrev cX2_has : ByteArray := prog_4_method_6_code
def yX2_has : MethodName := ⟨RX2, "has", "(I)Z"⟩
abbrev cX2_counts : ByteArray := prog_4_method_7_code
def yX2_counts : MethodName := ⟨RX2, "counts", "(II)Z"⟩
abbrev cX2_faceOf : ByteArray := prog_4_method_8_code
def yX2_faceOf : MethodName := ⟨RX2, "faceOf", "(I)I"⟩
abbrev cX2_otherOf : ByteArray := prog_4_method_9_code
def yX2_otherOf : MethodName := ⟨RX2, "otherOf", "(I)I"⟩
abbrev cX2_shareOf : ByteArray := prog_4_method_10_code
def yX2_shareOf : MethodName := ⟨RX2, "shareOf", "(I)I"⟩
abbrev cX2_yearOf : ByteArray := prog_4_method_11_code
def yX2_yearOf : MethodName := ⟨RX2, "yearOf", "(I)I"⟩
abbrev cX2_printerOf : ByteArray := prog_4_method_12_code
def yX2_printerOf : MethodName := ⟨RX2, "printerOf", "(I)I"⟩
abbrev cX2_streetOf : ByteArray := prog_4_method_13_code
def yX2_streetOf : MethodName := ⟨RX2, "streetOf", "(I)I"⟩
abbrev cX2_isMixed : ByteArray := prog_4_method_14_code
def yX2_isMixed : MethodName := ⟨RX2, "isMixed", "(I)Z"⟩
def RX3 : String := "TwoFaces$PlainBars"
def TX3 : u_T := fun k => match k with
  | 0 => ("TwoFaces$PlainBars", "town", "LTwoFaces$Town;", true)
  | 1 => ("TwoFaces$PlainBars", "gate", "LTwoFaces$Gate;", true)
  | 2 => ("TwoFaces$PlainBars", "bars", "[I", true)
  | 3 => ("TwoFaces$PlainBars", "falseAt", "[I", true)
  | _ => ("TwoFaces$PlainBars", "heldTill", "[I", true)
def tyX3 : Nat → FieldType := fun k => match k with
  | 0 => .object "TwoFaces$Town"
  | 1 => .object "TwoFaces$Gate"
  | 2 => .array .int
  | 3 => .array .int
  | _ => .array .int
abbrev wsX30 : List Cond := u_ws RX3 TX3 5
theorem nmX3 : ∀ a, a < 5 → ∀ b, b < 5 → a ≠ b → (TX3 a).2.1 ≠ (TX3 b).2.1 := by decide +kernel
theorem tyX3_ok : ∀ k, k < 5 → parseFieldDescriptor (TX3 k).2.2.1 = some (tyX3 k) := by decide +kernel
abbrev cX3_init : ByteArray := prog_5_method_1_code
def yX3_init : MethodName := ⟨RX3, "<init>", "(LTwoFaces$Town;LTwoFaces$Gate;)V"⟩
abbrev cX3_costOf : ByteArray := prog_5_method_2_code
def yX3_costOf : MethodName := ⟨RX3, "costOf", "(III)I"⟩
abbrev cX3_cheapest : ByteArray := prog_5_method_3_code
def yX3_cheapest : MethodName := ⟨RX3, "cheapest", "(II)I"⟩
abbrev cX3_countByFar : ByteArray := prog_5_method_4_code
def yX3_countByFar : MethodName := ⟨RX3, "countByFar", "()V"⟩
abbrev cX3_falseByBars : ByteArray := prog_5_method_5_code
def yX3_falseByBars : MethodName := ⟨RX3, "falseByBars", "()I"⟩
abbrev cX3_falseOf : ByteArray := prog_5_method_6_code
def yX3_falseOf : MethodName := ⟨RX3, "falseOf", "(II)I"⟩
abbrev cX3_heldBy : ByteArray := prog_5_method_7_code
def yX3_heldBy : MethodName := ⟨RX3, "heldBy", "(II)I"⟩
abbrev cX3_ownBar : ByteArray := prog_5_method_8_code
def yX3_ownBar : MethodName := ⟨RX3, "ownBar", "(II)I"⟩
abbrev cX3_falseByOwnBars : ByteArray := prog_5_method_9_code
def yX3_falseByOwnBars : MethodName := ⟨RX3, "falseByOwnBars", "(I)I"⟩
def RX4 : String := "TwoFaces$Rings"
def TX4 : u_T := fun k => match k with
  | 0 => ("TwoFaces$Rings", "town", "LTwoFaces$Town;", true)
  | 1 => ("TwoFaces$Rings", "papers", "LTwoFaces$Papers;", true)
  | 2 => ("TwoFaces$Rings", "partOf", "[I", true)
  | 3 => ("TwoFaces$Rings", "sizes", "[I", true)
  | 4 => ("TwoFaces$Rings", "row", "[I", true)
  | 5 => ("TwoFaces$Rings", "parts", "I", false)
  | _ => ("TwoFaces$Rings", "greatest", "I", false)
def tyX4 : Nat → FieldType := fun k => match k with
  | 0 => .object "TwoFaces$Town"
  | 1 => .object "TwoFaces$Papers"
  | 2 => .array .int
  | 3 => .array .int
  | 4 => .array .int
  | 5 => .int
  | _ => .int
abbrev wsX40 : List Cond := u_ws RX4 TX4 7
theorem nmX4 : ∀ a, a < 7 → ∀ b, b < 7 → a ≠ b → (TX4 a).2.1 ≠ (TX4 b).2.1 := by decide +kernel
theorem tyX4_ok : ∀ k, k < 7 → parseFieldDescriptor (TX4 k).2.2.1 = some (tyX4 k) := by decide +kernel
abbrev cX4_init : ByteArray := prog_6_method_1_code
def yX4_init : MethodName := ⟨RX4, "<init>", "(LTwoFaces$Town;LTwoFaces$Papers;)V"⟩
abbrev cX4_part : ByteArray := prog_6_method_2_code
def yX4_part : MethodName := ⟨RX4, "part", "(I)V"⟩
abbrev cX4_gather : ByteArray := prog_6_method_3_code
def yX4_gather : MethodName := ⟨RX4, "gather", "(II)V"⟩
abbrev cX4_hang : ByteArray := prog_6_method_4_code
def yX4_hang : MethodName := ⟨RX4, "hang", "(II)Z"⟩
abbrev cX4_isSameCorner : ByteArray := prog_6_method_5_code
def yX4_isSameCorner : MethodName := ⟨RX4, "isSameCorner", "(II)Z"⟩
abbrev cX4_greatestSize : ByteArray := prog_6_method_6_code
def yX4_greatestSize : MethodName := ⟨RX4, "greatestSize", "()I"⟩
abbrev cX4_sizeOfPartOf : ByteArray := prog_6_method_7_code
def yX4_sizeOfPartOf : MethodName := ⟨RX4, "sizeOfPartOf", "(I)I"⟩
def RX5 : String := "TwoFaces$Rules"
def TX5 : u_T := fun k => match k with
  | 0 => ("TwoFaces$Rules", "signs", "I", false)
  | 1 => ("TwoFaces$Rules", "units", "I", false)
  | 2 => ("TwoFaces$Rules", "barTold", "Z", false)
  | 3 => ("TwoFaces$Rules", "barFrom", "I", false)
  | 4 => ("TwoFaces$Rules", "barTo", "I", false)
  | 5 => ("TwoFaces$Rules", "used", "I", false)
  | 6 => ("TwoFaces$Rules", "signNames", "[J", true)
  | 7 => ("TwoFaces$Rules", "signFrom", "[I", true)
  | 8 => ("TwoFaces$Rules", "signTo", "[I", true)
  | 9 => ("TwoFaces$Rules", "acts", "[I", true)
  | 10 => ("TwoFaces$Rules", "operands", "[I", true)
  | 11 => ("TwoFaces$Rules", "values", "[I", true)
  | _ => ("TwoFaces$Rules", "stack", "[I", true)
def tyX5 : Nat → FieldType := fun k => match k with
  | 0 => .int
  | 1 => .int
  | 2 => .boolean
  | 3 => .int
  | 4 => .int
  | 5 => .int
  | 6 => .array .long
  | 7 => .array .int
  | 8 => .array .int
  | 9 => .array .int
  | 10 => .array .int
  | 11 => .array .int
  | _ => .array .int
abbrev wsX50 : List Cond := u_ws RX5 TX5 13
theorem nmX5 : ∀ a, a < 13 → ∀ b, b < 13 → a ≠ b → (TX5 a).2.1 ≠ (TX5 b).2.1 := by decide +kernel
theorem tyX5_ok : ∀ k, k < 13 → parseFieldDescriptor (TX5 k).2.2.1 = some (tyX5 k) := by decide +kernel
abbrev cX5_init : ByteArray := prog_7_method_1_code
def yX5_init : MethodName := ⟨RX5, "<init>", "()V"⟩
abbrev cX5_clear : ByteArray := prog_7_method_2_code
def yX5_clear : MethodName := ⟨RX5, "clear", "()V"⟩
abbrev cX5_copyFrom : ByteArray := prog_7_method_3_code
def yX5_copyFrom : MethodName := ⟨RX5, "copyFrom", "(LTwoFaces$Rules;)V"⟩
abbrev cX5_lines : ByteArray := prog_7_method_4_code
def yX5_lines : MethodName := ⟨RX5, "lines", "()I"⟩
abbrev cX5_put : ByteArray := prog_7_method_5_code
def yX5_put : MethodName := ⟨RX5, "put", "(II)V"⟩
abbrev cX5_stepsSoFar : ByteArray := prog_7_method_6_code
def yX5_stepsSoFar : MethodName := ⟨RX5, "stepsSoFar", "()I"⟩
abbrev cX5_hasSign : ByteArray := prog_7_method_7_code
def yX5_hasSign : MethodName := ⟨RX5, "hasSign", "(J)Z"⟩
abbrev cX5_addBar : ByteArray := prog_7_method_8_code
def yX5_addBar : MethodName := ⟨RX5, "addBar", "(I)V"⟩
abbrev cX5_addSign : ByteArray := prog_7_method_9_code
def yX5_addSign : MethodName := ⟨RX5, "addSign", "(JI)V"⟩
abbrev cX5_lets : ByteArray := prog_7_method_10_code
def yX5_lets : MethodName := ⟨RX5, "lets", "(IIII)Z"⟩
abbrev cX5_shownBy : ByteArray := prog_7_method_11_code
def yX5_shownBy : MethodName := ⟨RX5, "shownBy", "([II)I"⟩
abbrev cX5_lookAt : ByteArray := prog_7_method_12_code
def yX5_lookAt : MethodName := ⟨RX5, "lookAt", "([II)V"⟩
abbrev cX5_result : ByteArray := prog_7_method_13_code
def yX5_result : MethodName := ⟨RX5, "result", "(II)I"⟩
abbrev cX5_valueAt : ByteArray := prog_7_method_14_code
def yX5_valueAt : MethodName := ⟨RX5, "valueAt", "(I)I"⟩
abbrev cX5_joined : ByteArray := prog_7_method_15_code
def yX5_joined : MethodName := ⟨RX5, "joined", "(III)I"⟩
def RX6 : String := "TwoFaces$RulesText"
def TX6 : u_T := fun k => match k with
  | 0 => ("TwoFaces$RulesText", "tokens", "LTwoFaces$Tokens;", true)
  | 1 => ("TwoFaces$RulesText", "rules", "LTwoFaces$Rules;", true)
  | 2 => ("TwoFaces$RulesText", "points", "I", true)
  | _ => ("TwoFaces$RulesText", "inBar", "Z", false)
def tyX6 : Nat → FieldType := fun k => match k with
  | 0 => .object "TwoFaces$Tokens"
  | 1 => .object "TwoFaces$Rules"
  | 2 => .int
  | _ => .boolean
abbrev wsX60 : List Cond := u_ws RX6 TX6 4
theorem nmX6 : ∀ a, a < 4 → ∀ b, b < 4 → a ≠ b → (TX6 a).2.1 ≠ (TX6 b).2.1 := by decide +kernel
theorem tyX6_ok : ∀ k, k < 4 → parseFieldDescriptor (TX6 k).2.2.1 = some (tyX6 k) := by decide +kernel
abbrev cX6_init : ByteArray := prog_8_method_1_code
def yX6_init : MethodName := ⟨RX6, "<init>", "(LTwoFaces$Tokens;LTwoFaces$Rules;I)V"⟩
abbrev cX6_read : ByteArray := prog_8_method_2_code
def yX6_read : MethodName := ⟨RX6, "read", "()Z"⟩
abbrev cX6_readLine : ByteArray := prog_8_method_3_code
def yX6_readLine : MethodName := ⟨RX6, "readLine", "()Z"⟩
abbrev cX6_readBar : ByteArray := prog_8_method_4_code
def yX6_readBar : MethodName := ⟨RX6, "readBar", "()Z"⟩
abbrev cX6_readSign : ByteArray := prog_8_method_5_code
def yX6_readSign : MethodName := ⟨RX6, "readSign", "()Z"⟩
abbrev cX6_readE : ByteArray := prog_8_method_6_code
def yX6_readE : MethodName := ⟨RX6, "readE", "(I)Z"⟩
abbrev cX6_readBoth : ByteArray := prog_8_method_7_code
def yX6_readBoth : MethodName := ⟨RX6, "readBoth", "(I)Z"⟩
abbrev cX6_readOne : ByteArray := prog_8_method_8_code
def yX6_readOne : MethodName := ⟨RX6, "readOne", "(I)Z"⟩
abbrev cX6_readRelation : ByteArray := prog_8_method_9_code
def yX6_readRelation : MethodName := ⟨RX6, "readRelation", "(I)Z"⟩
abbrev cX6_relationHere : ByteArray := prog_8_method_10_code
def yX6_relationHere : MethodName := ⟨RX6, "relationHere", "()I"⟩
abbrev cX6_readSum : ByteArray := prog_8_method_11_code
def yX6_readSum : MethodName := ⟨RX6, "readSum", "(I)Z"⟩
abbrev cX6_readTerm : ByteArray := prog_8_method_12_code
def yX6_readTerm : MethodName := ⟨RX6, "readTerm", "(I)Z"⟩
abbrev cX6_readUnit : ByteArray := prog_8_method_13_code
def yX6_readUnit : MethodName := ⟨RX6, "readUnit", "(I)Z"⟩
abbrev cX6_readInner : ByteArray := prog_8_method_14_code
def yX6_readInner : MethodName := ⟨RX6, "readInner", "(I)Z"⟩
abbrev cX6_readAt : ByteArray := prog_8_method_15_code
def yX6_readAt : MethodName := ⟨RX6, "readAt", "()Z"⟩
abbrev cX6_readValue : ByteArray := prog_8_method_16_code
def yX6_readValue : MethodName := ⟨RX6, "readValue", "(I)Z"⟩
abbrev cX6_barValueHere : ByteArray := prog_8_method_17_code
def yX6_barValueHere : MethodName := ⟨RX6, "barValueHere", "()I"⟩
abbrev cX6_signValueHere : ByteArray := prog_8_method_18_code
def yX6_signValueHere : MethodName := ⟨RX6, "signValueHere", "()I"⟩
def RX7 : String := "TwoFaces$Search"
def TX7 : u_T := fun k => match k with
  | 0 => ("TwoFaces$Search", "town", "LTwoFaces$Town;", true)
  | 1 => ("TwoFaces$Search", "papers", "LTwoFaces$Papers;", true)
  | 2 => ("TwoFaces$Search", "darkroom", "LTwoFaces$Darkroom;", true)
  | 3 => ("TwoFaces$Search", "picture", "[I", true)
  | 4 => ("TwoFaces$Search", "leastFar", "[I", true)
  | 5 => ("TwoFaces$Search", "leastShare", "[I", true)
  | 6 => ("TwoFaces$Search", "showing", "[I", true)
  | 7 => ("TwoFaces$Search", "ownFar", "I", false)
  | 8 => ("TwoFaces$Search", "hander", "I", false)
  | 9 => ("TwoFaces$Search", "found", "I", false)
  | 10 => ("TwoFaces$Search", "lookedAt", "I", false)
  | _ => ("TwoFaces$Search", "lookedUp", "I", false)
def tyX7 : Nat → FieldType := fun k => match k with
  | 0 => .object "TwoFaces$Town"
  | 1 => .object "TwoFaces$Papers"
  | 2 => .object "TwoFaces$Darkroom"
  | 3 => .array .int
  | 4 => .array .int
  | 5 => .array .int
  | 6 => .array .int
  | 7 => .int
  | 8 => .int
  | 9 => .int
  | 10 => .int
  | _ => .int
abbrev wsX70 : List Cond := u_ws RX7 TX7 12
theorem nmX7 : ∀ a, a < 12 → ∀ b, b < 12 → a ≠ b → (TX7 a).2.1 ≠ (TX7 b).2.1 := by decide +kernel
theorem tyX7_ok : ∀ k, k < 12 → parseFieldDescriptor (TX7 k).2.2.1 = some (tyX7 k) := by decide +kernel
abbrev cX7_init : ByteArray := prog_9_method_1_code
def yX7_init : MethodName := ⟨RX7, "<init>", "(LTwoFaces$Town;LTwoFaces$Papers;LTwoFaces$Darkroom;)V"⟩
abbrev cX7_seek : ByteArray := prog_9_method_2_code
def yX7_seek : MethodName := ⟨RX7, "seek", "(I)V"⟩
abbrev cX7_compareMixes : ByteArray := prog_9_method_3_code
def yX7_compareMixes : MethodName := ⟨RX7, "compareMixes", "(II)V"⟩
abbrev cX7_foundShare : ByteArray := prog_9_method_4_code
def yX7_foundShare : MethodName := ⟨RX7, "foundShare", "()I"⟩
abbrev cX7_foundFar : ByteArray := prog_9_method_5_code
def yX7_foundFar : MethodName := ⟨RX7, "foundFar", "()I"⟩
abbrev cX7_isSure : ByteArray := prog_9_method_6_code
def yX7_isSure : MethodName := ⟨RX7, "isSure", "()Z"⟩
abbrev cX7_look : ByteArray := prog_9_method_7_code
def yX7_look : MethodName := ⟨RX7, "look", "(II)V"⟩
abbrev cX7_countShowing : ByteArray := prog_9_method_8_code
def yX7_countShowing : MethodName := ⟨RX7, "countShowing", "(I)V"⟩
abbrev cX7_showingOf : ByteArray := prog_9_method_9_code
def yX7_showingOf : MethodName := ⟨RX7, "showingOf", "(I)I"⟩
abbrev cX7_costOf : ByteArray := prog_9_method_10_code
def yX7_costOf : MethodName := ⟨RX7, "costOf", "(I)I"⟩
def RX8 : String := "TwoFaces$Tokens"
def TX8 : u_T := fun k => match k with
  | 0 => ("TwoFaces$Tokens", "text", "[B", true)
  | 1 => ("TwoFaces$Tokens", "reserved", "[J", true)
  | 2 => ("TwoFaces$Tokens", "tokens", "[I", true)
  | 3 => ("TwoFaces$Tokens", "starts", "[I", true)
  | 4 => ("TwoFaces$Tokens", "values", "[J", true)
  | 5 => ("TwoFaces$Tokens", "length", "I", false)
  | 6 => ("TwoFaces$Tokens", "withRuleSigns", "Z", false)
  | 7 => ("TwoFaces$Tokens", "readTo", "I", false)
  | 8 => ("TwoFaces$Tokens", "count", "I", false)
  | 9 => ("TwoFaces$Tokens", "at", "I", false)
  | 10 => ("TwoFaces$Tokens", "token", "I", false)
  | 11 => ("TwoFaces$Tokens", "number", "I", false)
  | 12 => ("TwoFaces$Tokens", "name", "J", false)
  | 13 => ("TwoFaces$Tokens", "fault", "I", false)
  | _ => ("TwoFaces$Tokens", "faultPlace", "I", false)
def tyX8 : Nat → FieldType := fun k => match k with
  | 0 => .array .byte
  | 1 => .array .long
  | 2 => .array .int
  | 3 => .array .int
  | 4 => .array .long
  | 5 => .int
  | 6 => .boolean
  | 7 => .int
  | 8 => .int
  | 9 => .int
  | 10 => .int
  | 11 => .int
  | 12 => .long
  | 13 => .int
  | _ => .int
abbrev wsX80 : List Cond := u_ws RX8 TX8 15
theorem nmX8 : ∀ a, a < 15 → ∀ b, b < 15 → a ≠ b → (TX8 a).2.1 ≠ (TX8 b).2.1 := by decide +kernel
theorem tyX8_ok : ∀ k, k < 15 → parseFieldDescriptor (TX8 k).2.2.1 = some (tyX8 k) := by decide +kernel
abbrev cX8_init : ByteArray := prog_10_method_1_code
def yX8_init : MethodName := ⟨RX8, "<init>", "([B)V"⟩
abbrev cX8_open : ByteArray := prog_10_method_2_code
def yX8_open : MethodName := ⟨RX8, "open", "(IZ)V"⟩
abbrev cX8_step : ByteArray := prog_10_method_3_code
def yX8_step : MethodName := ⟨RX8, "step", "()V"⟩
abbrev cX8_readToken : ByteArray := prog_10_method_4_code
def yX8_readToken : MethodName := ⟨RX8, "readToken", "()Z"⟩
abbrev cX8_readKind : ByteArray := prog_10_method_5_code
def yX8_readKind : MethodName := ⟨RX8, "readKind", "(I)I"⟩
abbrev cX8_readWord : ByteArray := prog_10_method_6_code
def yX8_readWord : MethodName := ⟨RX8, "readWord", "()I"⟩
abbrev cX8_readNumber : ByteArray := prog_10_method_7_code
def yX8_readNumber : MethodName := ⟨RX8, "readNumber", "()I"⟩
abbrev cX8_byteAt : ByteArray := prog_10_method_8_code
def yX8_byteAt : MethodName := ⟨RX8, "byteAt", "(I)I"⟩
abbrev cX8_withLetter : ByteArray := prog_10_method_9_code
def yX8_withLetter : MethodName := ⟨RX8, "withLetter", "(JI)J"⟩
abbrev cX8_isBlank : ByteArray := prog_10_method_10_code
def yX8_isBlank : MethodName := ⟨RX8, "isBlank", "(I)Z"⟩
abbrev cX8_isLetter : ByteArray := prog_10_method_11_code
def yX8_isLetter : MethodName := ⟨RX8, "isLetter", "(I)Z"⟩
abbrev cX8_isDigit : ByteArray := prog_10_method_12_code
def yX8_isDigit : MethodName := ⟨RX8, "isDigit", "(I)Z"⟩
abbrev cX8_isSign : ByteArray := prog_10_method_13_code
def yX8_isSign : MethodName := ⟨RX8, "isSign", "(I)Z"⟩
abbrev cX8_refuse : ByteArray := prog_10_method_14_code
def yX8_refuse : MethodName := ⟨RX8, "refuse", "(I)Z"⟩
abbrev cX8_take : ByteArray := prog_10_method_15_code
def yX8_take : MethodName := ⟨RX8, "take", "(I)Z"⟩
abbrev cX8_isNumber : ByteArray := prog_10_method_16_code
def yX8_isNumber : MethodName := ⟨RX8, "isNumber", "(II)Z"⟩
def RX9 : String := "TwoFaces$Town"
def TX9 : u_T := fun k => match k with
  | 0 => ("TwoFaces$Town", "points", "I", false)
  | 1 => ("TwoFaces$Town", "near", "I", false)
  | 2 => ("TwoFaces$Town", "faces", "I", false)
  | 3 => ("TwoFaces$Town", "knowsLines", "I", false)
  | 4 => ("TwoFaces$Town", "names", "[J", true)
  | 5 => ("TwoFaces$Town", "kinds", "[I", true)
  | 6 => ("TwoFaces$Town", "drifts", "[I", true)
  | 7 => ("TwoFaces$Town", "told", "[[I", true)
  | 8 => ("TwoFaces$Town", "friends", "[I", true)
  | 9 => ("TwoFaces$Town", "blurs", "[I", true)
  | _ => ("TwoFaces$Town", "costs", "[I", true)
def tyX9 : Nat → FieldType := fun k => match k with
  | 0 => .int
  | 1 => .int
  | 2 => .int
  | 3 => .int
  | 4 => .array .long
  | 5 => .array .int
  | 6 => .array .int
  | 7 => .array (.array .int)
  | 8 => .array .int
  | 9 => .array .int
  | _ => .array .int
abbrev wsX90 : List Cond := u_ws RX9 TX9 11
theorem nmX9 : ∀ a, a < 11 → ∀ b, b < 11 → a ≠ b → (TX9 a).2.1 ≠ (TX9 b).2.1 := by decide +kernel
theorem tyX9_ok : ∀ k, k < 11 → parseFieldDescriptor (TX9 k).2.2.1 = some (tyX9 k) := by decide +kernel
abbrev cX9_init : ByteArray := prog_11_method_1_code
def yX9_init : MethodName := ⟨RX9, "<init>", "()V"⟩
abbrev cX9_clear : ByteArray := prog_11_method_2_code
def yX9_clear : MethodName := ⟨RX9, "clear", "()V"⟩
abbrev cX9_copyFrom : ByteArray := prog_11_method_3_code
def yX9_copyFrom : MethodName := ⟨RX9, "copyFrom", "(LTwoFaces$Town;)V"⟩
abbrev cX9_has : ByteArray := prog_11_method_4_code
def yX9_has : MethodName := ⟨RX9, "has", "(I)Z"⟩
abbrev cX9_named : ByteArray := prog_11_method_5_code
def yX9_named : MethodName := ⟨RX9, "named", "(J)I"⟩
abbrev cX9_setNextMeasure : ByteArray := prog_11_method_6_code
def yX9_setNextMeasure : MethodName := ⟨RX9, "setNextMeasure", "(II)V"⟩
abbrev cX9_add : ByteArray := prog_11_method_7_code
def yX9_add : MethodName := ⟨RX9, "add", "(JII)V"⟩
abbrev cX9_addKnows : ByteArray := prog_11_method_8_code
def yX9_addKnows : MethodName := ⟨RX9, "addKnows", "(II)V"⟩
abbrev cX9_setPrinter : ByteArray := prog_11_method_9_code
def yX9_setPrinter : MethodName := ⟨RX9, "setPrinter", "(III)V"⟩
abbrev cX9_kindOf : ByteArray := prog_11_method_10_code
def yX9_kindOf : MethodName := ⟨RX9, "kindOf", "(I)I"⟩
abbrev cX9_blurOf : ByteArray := prog_11_method_11_code
def yX9_blurOf : MethodName := ⟨RX9, "blurOf", "(I)I"⟩
abbrev cX9_costOf : ByteArray := prog_11_method_12_code
def yX9_costOf : MethodName := ⟨RX9, "costOf", "(I)I"⟩
abbrev cX9_countOfKind : ByteArray := prog_11_method_13_code
def yX9_countOfKind : MethodName := ⟨RX9, "countOfKind", "(I)I"⟩
abbrev cX9_measureIn : ByteArray := prog_11_method_14_code
def yX9_measureIn : MethodName := ⟨RX9, "measureIn", "(III)I"⟩
abbrev cX9_mixed : ByteArray := prog_11_method_15_code
def yX9_mixed : MethodName := ⟨RX9, "mixed", "(IIII)I"⟩
abbrev cX9_apart : ByteArray := prog_11_method_16_code
def yX9_apart : MethodName := ⟨RX9, "apart", "([I[I)I"⟩
abbrev cX9_knowEachOther : ByteArray := prog_11_method_17_code
def yX9_knowEachOther : MethodName := ⟨RX9, "knowEachOther", "(II)Z"⟩
abbrev cX9_steps : ByteArray := prog_11_method_18_code
def yX9_steps : MethodName := ⟨RX9, "steps", "(II)I"⟩
abbrev cX9_withFriends : ByteArray := prog_11_method_19_code
def yX9_withFriends : MethodName := ⟨RX9, "withFriends", "(I)I"⟩
abbrev cX9_leastBetween : ByteArray := prog_11_method_20_code
def yX9_leastBetween : MethodName := ⟨RX9, "leastBetween", "(II)I"⟩
def RX10 : String := "TwoFaces$TownText"
def TX10 : u_T := fun k => match k with
  | 0 => ("TwoFaces$TownText", "tokens", "LTwoFaces$Tokens;", true)
  | 1 => ("TwoFaces$TownText", "town", "LTwoFaces$Town;", true)
  | 2 => ("TwoFaces$TownText", "pointsTold", "Z", false)
  | 3 => ("TwoFaces$TownText", "nearTold", "Z", false)
  | _ => ("TwoFaces$TownText", "printersTold", "I", false)
def tyX10 : Nat → FieldType := fun k => match k with
  | 0 => .object "TwoFaces$Tokens"
  | 1 => .object "TwoFaces$Town"
  | 2 => .boolean
  | 3 => .boolean
  | _ => .int
abbrev wsX100 : List Cond := u_ws RX10 TX10 5
theorem nmX10 : ∀ a, a < 5 → ∀ b, b < 5 → a ≠ b → (TX10 a).2.1 ≠ (TX10 b).2.1 := by decide +kernel
theorem tyX10_ok : ∀ k, k < 5 → parseFieldDescriptor (TX10 k).2.2.1 = some (tyX10 k) := by decide +kernel
abbrev cX10_init : ByteArray := prog_12_method_1_code
def yX10_init : MethodName := ⟨RX10, "<init>", "(LTwoFaces$Tokens;LTwoFaces$Town;)V"⟩
abbrev cX10_read : ByteArray := prog_12_method_2_code
def yX10_read : MethodName := ⟨RX10, "read", "()Z"⟩
abbrev cX10_readLine : ByteArray := prog_12_method_3_code
def yX10_readLine : MethodName := ⟨RX10, "readLine", "()Z"⟩
abbrev cX10_readPoints : ByteArray := prog_12_method_4_code
def yX10_readPoints : MethodName := ⟨RX10, "readPoints", "()Z"⟩
abbrev cX10_readNear : ByteArray := prog_12_method_5_code
def yX10_readNear : MethodName := ⟨RX10, "readNear", "()Z"⟩
abbrev cX10_readFace : ByteArray := prog_12_method_6_code
def yX10_readFace : MethodName := ⟨RX10, "readFace", "()Z"⟩
abbrev cX10_readRow : ByteArray := prog_12_method_7_code
def yX10_readRow : MethodName := ⟨RX10, "readRow", "()Z"⟩
abbrev cX10_readKnows : ByteArray := prog_12_method_8_code
def yX10_readKnows : MethodName := ⟨RX10, "readKnows", "()Z"⟩
abbrev cX10_faceHere : ByteArray := prog_12_method_9_code
def yX10_faceHere : MethodName := ⟨RX10, "faceHere", "()I"⟩
abbrev cX10_readPrinter : ByteArray := prog_12_method_10_code
def yX10_readPrinter : MethodName := ⟨RX10, "readPrinter", "()Z"⟩
def RX11 : String := "TwoFaces"
def TX11 : u_T := fun k => match k with
  | 0 => ("TwoFaces", "tape", "[B", true)
  | 1 => ("TwoFaces", "taped", "I", false)
  | 2 => ("TwoFaces", "fault", "I", false)
  | 3 => ("TwoFaces", "faultPlace", "I", false)
  | 4 => ("TwoFaces", "tokens", "LTwoFaces$Tokens;", true)
  | 5 => ("TwoFaces", "townHere", "LTwoFaces$Town;", true)
  | 6 => ("TwoFaces", "townDraft", "LTwoFaces$Town;", true)
  | 7 => ("TwoFaces", "rulesHere", "LTwoFaces$Rules;", true)
  | 8 => ("TwoFaces", "rulesDraft", "LTwoFaces$Rules;", true)
  | 9 => ("TwoFaces", "papers", "LTwoFaces$Papers;", true)
  | 10 => ("TwoFaces", "boxes", "[LTwoFaces$Papers;", true)
  | 11 => ("TwoFaces", "darkroom", "LTwoFaces$Darkroom;", true)
  | 12 => ("TwoFaces", "gateHere", "LTwoFaces$Gate;", true)
  | 13 => ("TwoFaces", "plainBars", "LTwoFaces$PlainBars;", true)
  | 14 => ("TwoFaces", "search", "LTwoFaces$Search;", true)
  | _ => ("TwoFaces", "ringsHere", "LTwoFaces$Rings;", true)
def tyX11 : Nat → FieldType := fun k => match k with
  | 0 => .array .byte
  | 1 => .int
  | 2 => .int
  | 3 => .int
  | 4 => .object "TwoFaces$Tokens"
  | 5 => .object "TwoFaces$Town"
  | 6 => .object "TwoFaces$Town"
  | 7 => .object "TwoFaces$Rules"
  | 8 => .object "TwoFaces$Rules"
  | 9 => .object "TwoFaces$Papers"
  | 10 => .array (.object "TwoFaces$Papers")
  | 11 => .object "TwoFaces$Darkroom"
  | 12 => .object "TwoFaces$Gate"
  | 13 => .object "TwoFaces$PlainBars"
  | 14 => .object "TwoFaces$Search"
  | _ => .object "TwoFaces$Rings"
abbrev wsX110 : List Cond := u_ws RX11 TX11 16
theorem nmX11 : ∀ a, a < 16 → ∀ b, b < 16 → a ≠ b → (TX11 a).2.1 ≠ (TX11 b).2.1 := by decide +kernel
theorem tyX11_ok : ∀ k, k < 16 → parseFieldDescriptor (TX11 k).2.2.1 = some (tyX11 k) := by decide +kernel
abbrev cX11_init : ByteArray := prog_1_method_1_code
def yX11_init : MethodName := ⟨RX11, "<init>", "()V"⟩
abbrev cX11_feed : ByteArray := prog_1_method_2_code
def yX11_feed : MethodName := ⟨RX11, "feed", "(IIIII)I"⟩
abbrev cX11_putOnTape : ByteArray := prog_1_method_3_code
def yX11_putOnTape : MethodName := ⟨RX11, "putOnTape", "(I)V"⟩
abbrev cX11_end : ByteArray := prog_1_method_4_code
def yX11_end : MethodName := ⟨RX11, "end", "(I)I"⟩
abbrev cX11_town : ByteArray := prog_1_method_5_code
def yX11_town : MethodName := ⟨RX11, "town", "()I"⟩
abbrev cX11_rules : ByteArray := prog_1_method_6_code
def yX11_rules : MethodName := ⟨RX11, "rules", "()I"⟩
abbrev cX11_keepFault : ByteArray := prog_1_method_7_code
def yX11_keepFault : MethodName := ⟨RX11, "keepFault", "()V"⟩
abbrev cX11_fault : ByteArray := prog_1_method_8_code
def yX11_fault : MethodName := ⟨RX11, "fault", "(I)I"⟩
abbrev cX11_face : ByteArray := prog_1_method_9_code
def yX11_face : MethodName := ⟨RX11, "face", "(III)I"⟩
abbrev cX11_far : ByteArray := prog_1_method_10_code
def yX11_far : MethodName := ⟨RX11, "far", "(IIII)I"⟩
abbrev cX11_passes : ByteArray := prog_1_method_11_code
def yX11_passes : MethodName := ⟨RX11, "passes", "(IIII)I"⟩
abbrev cX11_mix : ByteArray := prog_1_method_12_code
def yX11_mix : MethodName := ⟨RX11, "mix", "(IIIII)I"⟩
abbrev cX11_both : ByteArray := prog_1_method_13_code
def yX11_both : MethodName := ⟨RX11, "both", "(IIIII)I"⟩
abbrev cX11_able : ByteArray := prog_1_method_14_code
def yX11_able : MethodName := ⟨RX11, "able", "(IIII)I"⟩
abbrev cX11_pairs : ByteArray := prog_1_method_15_code
def yX11_pairs : MethodName := ⟨RX11, "pairs", "(II)I"⟩
abbrev cX11_pair : ByteArray := prog_1_method_16_code
def yX11_pair : MethodName := ⟨RX11, "pair", "(III)I"⟩
abbrev cX11_gate : ByteArray := prog_1_method_17_code
def yX11_gate : MethodName := ⟨RX11, "gate", "(IIII)I"⟩
abbrev cX11_twins : ByteArray := prog_1_method_18_code
def yX11_twins : MethodName := ⟨RX11, "twins", "(II)I"⟩
abbrev cX11_until : ByteArray := prog_1_method_19_code
def yX11_until : MethodName := ⟨RX11, "until", "(II)I"⟩
abbrev cX11_signs : ByteArray := prog_1_method_20_code
def yX11_signs : MethodName := ⟨RX11, "signs", "(IIII)I"⟩
abbrev cX11_caught : ByteArray := prog_1_method_21_code
def yX11_caught : MethodName := ⟨RX11, "caught", "(II)I"⟩
abbrev cX11_paper : ByteArray := prog_1_method_22_code
def yX11_paper : MethodName := ⟨RX11, "paper", "(IIII)I"⟩
abbrev cX11_untell : ByteArray := prog_1_method_23_code
def yX11_untell : MethodName := ⟨RX11, "untell", "(I)Z"⟩
abbrev cX11_later : ByteArray := prog_1_method_24_code
def yX11_later : MethodName := ⟨RX11, "later", "(I)I"⟩
abbrev cX11_behind : ByteArray := prog_1_method_25_code
def yX11_behind : MethodName := ⟨RX11, "behind", "(III)I"⟩
abbrev cX11_rings : ByteArray := prog_1_method_26_code
def yX11_rings : MethodName := ⟨RX11, "rings", "(II)I"⟩
abbrev cX11_ring : ByteArray := prog_1_method_27_code
def yX11_ring : MethodName := ⟨RX11, "ring", "(II)I"⟩
abbrev cX11_between : ByteArray := prog_1_method_28_code
def yX11_between : MethodName := ⟨RX11, "between", "(II)I"⟩
abbrev cX11_looks : ByteArray := prog_1_method_29_code
def yX11_looks : MethodName := ⟨RX11, "looks", "(III)I"⟩
abbrev cX11_cost : ByteArray := prog_1_method_30_code
def yX11_cost : MethodName := ⟨RX11, "cost", "(IIIII)I"⟩
abbrev cX11_bestBar : ByteArray := prog_1_method_31_code
def yX11_bestBar : MethodName := ⟨RX11, "bestBar", "(IIII)I"⟩
abbrev cX11_fair : ByteArray := prog_1_method_32_code
def yX11_fair : MethodName := ⟨RX11, "fair", "(IIII)I"⟩
abbrev cX11_measure : ByteArray := prog_1_method_33_code
def yX11_measure : MethodName := ⟨RX11, "measure", "(II)I"⟩
abbrev cX11_image : ByteArray := prog_1_method_34_code
def yX11_image : MethodName := ⟨RX11, "image", "(I)I"⟩
abbrev cX11_back : ByteArray := prog_1_method_35_code
def yX11_back : MethodName := ⟨RX11, "back", "(I)I"⟩
abbrev cX11_about : ByteArray := prog_1_method_36_code
def yX11_about : MethodName := ⟨RX11, "about", "(I)I"⟩
abbrev cX11_boxAt : ByteArray := prog_1_method_37_code
def yX11_boxAt : MethodName := ⟨RX11, "boxAt", "(I)LTwoFaces$Papers;"⟩
abbrev cX11_emptyBoxes : ByteArray := prog_1_method_38_code
def yX11_emptyBoxes : MethodName := ⟨RX11, "emptyBoxes", "()V"⟩
abbrev cX11_isMix : ByteArray := prog_1_method_39_code
def yX11_isMix : MethodName := ⟨RX11, "isMix", "(III)Z"⟩
abbrev cX11_isShare : ByteArray := prog_1_method_40_code
def yX11_isShare : MethodName := ⟨RX11, "isShare", "(I)Z"⟩
abbrev cX11_isPrinterOrNot : ByteArray := prog_1_method_41_code
def yX11_isPrinterOrNot : MethodName := ⟨RX11, "isPrinterOrNot", "(I)Z"⟩
abbrev cX11_isYear : ByteArray := prog_1_method_42_code
def yX11_isYear : MethodName := ⟨RX11, "isYear", "(I)Z"⟩
abbrev cX11_isLight : ByteArray := prog_1_method_43_code
def yX11_isLight : MethodName := ⟨RX11, "isLight", "(I)Z"⟩
abbrev cX11_isWhen : ByteArray := prog_1_method_44_code
def yX11_isWhen : MethodName := ⟨RX11, "isWhen", "(II)Z"⟩
abbrev cX11_isPlace : ByteArray := prog_1_method_45_code
def yX11_isPlace : MethodName := ⟨RX11, "isPlace", "(I)Z"⟩
abbrev cX11_isPrice : ByteArray := prog_1_method_46_code
def yX11_isPrice : MethodName := ⟨RX11, "isPrice", "(I)Z"⟩
def RX12 : String := "TwoFacesModel"
def TX12 : u_T := fun k => match k with
  | 0 => ("TwoFacesModel", "tape", "[B", true)
  | 1 => ("TwoFacesModel", "text", "[B", true)
  | 2 => ("TwoFacesModel", "taped", "I", false)
  | 3 => ("TwoFacesModel", "size", "I", false)
  | 4 => ("TwoFacesModel", "faultKind", "I", false)
  | 5 => ("TwoFacesModel", "faultPlace", "I", false)
  | 6 => ("TwoFacesModel", "at", "I", false)
  | 7 => ("TwoFacesModel", "end", "I", false)
  | 8 => ("TwoFacesModel", "token", "I", false)
  | 9 => ("TwoFacesModel", "number", "I", false)
  | 10 => ("TwoFacesModel", "name", "J", false)
  | 11 => ("TwoFacesModel", "isRules", "Z", false)
  | 12 => ("TwoFacesModel", "points", "[I", true)
  | 13 => ("TwoFacesModel", "faces", "[I", true)
  | 14 => ("TwoFacesModel", "knows", "[I", true)
  | 15 => ("TwoFacesModel", "near", "[I", true)
  | 16 => ("TwoFacesModel", "kindOf", "[I", true)
  | 17 => ("TwoFacesModel", "driftOf", "[I", true)
  | 18 => ("TwoFacesModel", "rows", "[I", true)
  | 19 => ("TwoFacesModel", "friends", "[I", true)
  | 20 => ("TwoFacesModel", "blurs", "[I", true)
  | 21 => ("TwoFacesModel", "costs", "[I", true)
  | 22 => ("TwoFacesModel", "isPoints", "[Z", true)
  | 23 => ("TwoFacesModel", "isNear", "[Z", true)
  | 24 => ("TwoFacesModel", "isPrinter", "[Z", true)
  | 25 => ("TwoFacesModel", "fName", "[J", true)
  | 26 => ("TwoFacesModel", "bank", "I", false)
  | 27 => ("TwoFacesModel", "rb", "I", false)
  | 28 => ("TwoFacesModel", "code", "[I", true)
  | 29 => ("TwoFacesModel", "codeNumber", "[I", true)
  | 30 => ("TwoFacesModel", "eWhat", "[I", true)
  | 31 => ("TwoFacesModel", "eSign", "[I", true)
  | 32 => ("TwoFacesModel", "pile", "[I", true)
  | 33 => ("TwoFacesModel", "rFrom", "[I", true)
  | 34 => ("TwoFacesModel", "rTo", "[I", true)
  | 35 => ("TwoFacesModel", "sName", "[J", true)
  | 36 => ("TwoFacesModel", "codes", "I", false)
  | 37 => ("TwoFacesModel", "units", "I", false)
  | 38 => ("TwoFacesModel", "within", "I", false)
  | 39 => ("TwoFacesModel", "piled", "I", false)
  | 40 => ("TwoFacesModel", "signMany", "I", false)
  | 41 => ("TwoFacesModel", "signsRead", "I", false)
  | 42 => ("TwoFacesModel", "lines", "I", false)
  | 43 => ("TwoFacesModel", "linesRead", "I", false)
  | 44 => ("TwoFacesModel", "ruleUnits", "I", false)
  | 45 => ("TwoFacesModel", "hasBar", "Z", false)
  | 46 => ("TwoFacesModel", "barRead", "Z", false)
  | 47 => ("TwoFacesModel", "inBar", "Z", false)
  | 48 => ("TwoFacesModel", "askFar", "I", false)
  | 49 => ("TwoFacesModel", "askKind", "I", false)
  | 50 => ("TwoFacesModel", "askYear", "I", false)
  | 51 => ("TwoFacesModel", "askLight", "I", false)
  | 52 => ("TwoFacesModel", "picture", "[I", true)
  | 53 => ("TwoFacesModel", "beside", "[I", true)
  | 54 => ("TwoFacesModel", "pFace", "[I", true)
  | 55 => ("TwoFacesModel", "pOther", "[I", true)
  | 56 => ("TwoFacesModel", "pShare", "[I", true)
  | 57 => ("TwoFacesModel", "pPlace", "[I", true)
  | 58 => ("TwoFacesModel", "pTold", "[I", true)
  | 59 => ("TwoFacesModel", "pUntold", "[I", true)
  | 60 => ("TwoFacesModel", "papers", "I", false)
  | 61 => ("TwoFacesModel", "time", "I", false)
  | 62 => ("TwoFacesModel", "behindFace", "I", false)
  | 63 => ("TwoFacesModel", "behindShare", "I", false)
  | 64 => ("TwoFacesModel", "behindFar", "I", false)
  | 65 => ("TwoFacesModel", "isHere", "[Z", true)
  | 66 => ("TwoFacesModel", "boxMany", "[I", true)
  | 67 => ("TwoFacesModel", "boxTime", "[I", true)
  | 68 => ("TwoFacesModel", "boxFace", "[I", true)
  | 69 => ("TwoFacesModel", "boxOther", "[I", true)
  | 70 => ("TwoFacesModel", "boxShare", "[I", true)
  | 71 => ("TwoFacesModel", "boxPlace", "[I", true)
  | 72 => ("TwoFacesModel", "boxTold", "[I", true)
  | _ => ("TwoFacesModel", "boxUntold", "[I", true)
def tyX12 : Nat → FieldType := fun k => match k with
  | 0 => .array .byte
  | 1 => .array .byte
  | 2 => .int
  | 3 => .int
  | 4 => .int
  | 5 => .int
  | 6 => .int
  | 7 => .int
  | 8 => .int
  | 9 => .int
  | 10 => .long
  | 11 => .boolean
  | 12 => .array .int
  | 13 => .array .int
  | 14 => .array .int
  | 15 => .array .int
  | 16 => .array .int
  | 17 => .array .int
  | 18 => .array .int
  | 19 => .array .int
  | 20 => .array .int
  | 21 => .array .int
  | 22 => .array .boolean
  | 23 => .array .boolean
  | 24 => .array .boolean
  | 25 => .array .long
  | 26 => .int
  | 27 => .int
  | 28 => .array .int
  | 29 => .array .int
  | 30 => .array .int
  | 31 => .array .int
  | 32 => .array .int
  | 33 => .array .int
  | 34 => .array .int
  | 35 => .array .long
  | 36 => .int
  | 37 => .int
  | 38 => .int
  | 39 => .int
  | 40 => .int
  | 41 => .int
  | 42 => .int
  | 43 => .int
  | 44 => .int
  | 45 => .boolean
  | 46 => .boolean
  | 47 => .boolean
  | 48 => .int
  | 49 => .int
  | 50 => .int
  | 51 => .int
  | 52 => .array .int
  | 53 => .array .int
  | 54 => .array .int
  | 55 => .array .int
  | 56 => .array .int
  | 57 => .array .int
  | 58 => .array .int
  | 59 => .array .int
  | 60 => .int
  | 61 => .int
  | 62 => .int
  | 63 => .int
  | 64 => .int
  | 65 => .array .boolean
  | 66 => .array .int
  | 67 => .array .int
  | 68 => .array .int
  | 69 => .array .int
  | 70 => .array .int
  | 71 => .array .int
  | 72 => .array .int
  | _ => .array .int
abbrev wsX120 : List Cond := u_ws RX12 TX12 74
theorem nmX12 : ∀ a, a < 74 → ∀ b, b < 74 → a ≠ b → (TX12 a).2.1 ≠ (TX12 b).2.1 := by decide +kernel
theorem tyX12_ok : ∀ k, k < 74 → parseFieldDescriptor (TX12 k).2.2.1 = some (tyX12 k) := by decide +kernel
abbrev cX12_init : ByteArray := prog_14_method_1_code
def yX12_init : MethodName := ⟨RX12, "<init>", "()V"⟩
abbrev cX12_sign : ByteArray := prog_14_method_2_code
def yX12_sign : MethodName := ⟨RX12, "sign", "(I)I"⟩
abbrev cX12_isLetter : ByteArray := prog_14_method_3_code
def yX12_isLetter : MethodName := ⟨RX12, "isLetter", "(I)Z"⟩
abbrev cX12_isDigit : ByteArray := prog_14_method_4_code
def yX12_isDigit : MethodName := ⟨RX12, "isDigit", "(I)Z"⟩
abbrev cX12_fails : ByteArray := prog_14_method_5_code
def yX12_fails : MethodName := ⟨RX12, "fails", "(II)V"⟩
abbrev cX12_isGood : ByteArray := prog_14_method_6_code
def yX12_isGood : MethodName := ⟨RX12, "isGood", "()Z"⟩
abbrev cX12_isKept : ByteArray := prog_14_method_7_code
def yX12_isKept : MethodName := ⟨RX12, "isKept", "(J)Z"⟩
abbrev cX12_isSign : ByteArray := prog_14_method_8_code
def yX12_isSign : MethodName := ⟨RX12, "isSign", "(I)Z"⟩
abbrev cX12_goOn : ByteArray := prog_14_method_9_code
def yX12_goOn : MethodName := ⟨RX12, "goOn", "()V"⟩
abbrev cX12_is : ByteArray := prog_14_method_10_code
def yX12_is : MethodName := ⟨RX12, "is", "(I)Z"⟩
abbrev cX12_isWord : ByteArray := prog_14_method_11_code
def yX12_isWord : MethodName := ⟨RX12, "isWord", "(J)Z"⟩
abbrev cX12_misplaced : ByteArray := prog_14_method_12_code
def yX12_misplaced : MethodName := ⟨RX12, "misplaced", "()V"⟩
abbrev cX12_must : ByteArray := prog_14_method_13_code
def yX12_must : MethodName := ⟨RX12, "must", "(Z)V"⟩
abbrev cX12_numeral : ByteArray := prog_14_method_14_code
def yX12_numeral : MethodName := ⟨RX12, "numeral", "(II)I"⟩
abbrev cX12_after : ByteArray := prog_14_method_15_code
def yX12_after : MethodName := ⟨RX12, "after", "(JII)I"⟩
abbrev cX12_takeTape : ByteArray := prog_14_method_16_code
def yX12_takeTape : MethodName := ⟨RX12, "takeTape", "(Z)V"⟩
abbrev cX12_clearBank : ByteArray := prog_14_method_17_code
def yX12_clearBank : MethodName := ⟨RX12, "clearBank", "()V"⟩
abbrev cX12_town : ByteArray := prog_14_method_18_code
def yX12_town : MethodName := ⟨RX12, "town", "()I"⟩
abbrev cX12_isFull : ByteArray := prog_14_method_19_code
def yX12_isFull : MethodName := ⟨RX12, "isFull", "()Z"⟩
abbrev cX12_readLine : ByteArray := prog_14_method_20_code
def yX12_readLine : MethodName := ⟨RX12, "readLine", "()V"⟩
abbrev cX12_faceHere : ByteArray := prog_14_method_21_code
def yX12_faceHere : MethodName := ⟨RX12, "faceHere", "()I"⟩
abbrev cX12_readFace : ByteArray := prog_14_method_22_code
def yX12_readFace : MethodName := ⟨RX12, "readFace", "()V"⟩
abbrev cX12_aFace : ByteArray := prog_14_method_23_code
def yX12_aFace : MethodName := ⟨RX12, "aFace", "(I)I"⟩
abbrev cX12_readKnows : ByteArray := prog_14_method_24_code
def yX12_readKnows : MethodName := ⟨RX12, "readKnows", "()V"⟩
abbrev cX12_readPrinter : ByteArray := prog_14_method_25_code
def yX12_readPrinter : MethodName := ⟨RX12, "readPrinter", "()V"⟩
abbrev cX12_fault : ByteArray := prog_14_method_26_code
def yX12_fault : MethodName := ⟨RX12, "fault", "(I)I"⟩
abbrev cX12_rules : ByteArray := prog_14_method_27_code
def yX12_rules : MethodName := ⟨RX12, "rules", "()I"⟩
abbrev cX12_readRule : ByteArray := prog_14_method_28_code
def yX12_readRule : MethodName := ⟨RX12, "readRule", "()V"⟩
abbrev cX12_readSignName : ByteArray := prog_14_method_29_code
def yX12_readSignName : MethodName := ⟨RX12, "readSignName", "()V"⟩
abbrev cX12_emit : ByteArray := prog_14_method_30_code
def yX12_emit : MethodName := ⟨RX12, "emit", "(II)V"⟩
abbrev cX12_pushE : ByteArray := prog_14_method_31_code
def yX12_pushE : MethodName := ⟨RX12, "pushE", "(II)V"⟩
abbrev cX12_e : ByteArray := prog_14_method_32_code
def yX12_e : MethodName := ⟨RX12, "e", "()V"⟩
abbrev cX12_wordHere : ByteArray := prog_14_method_33_code
def yX12_wordHere : MethodName := ⟨RX12, "wordHere", "()I"⟩
abbrev cX12_unit : ByteArray := prog_14_method_34_code
def yX12_unit : MethodName := ⟨RX12, "unit", "()Z"⟩
abbrev cX12_rankHere : ByteArray := prog_14_method_35_code
def yX12_rankHere : MethodName := ⟨RX12, "rankHere", "()I"⟩
abbrev cX12_isCompared : ByteArray := prog_14_method_36_code
def yX12_isCompared : MethodName := ⟨RX12, "isCompared", "()Z"⟩
abbrev cX12_behindUnit : ByteArray := prog_14_method_37_code
def yX12_behindUnit : MethodName := ⟨RX12, "behindUnit", "()Z"⟩
abbrev cX12_two : ByteArray := prog_14_method_38_code
def yX12_two : MethodName := ⟨RX12, "two", "(III)I"⟩
abbrev cX12_worth : ByteArray := prog_14_method_39_code
def yX12_worth : MethodName := ⟨RX12, "worth", "(II)I"⟩
abbrev cX12_holds : ByteArray := prog_14_method_40_code
def yX12_holds : MethodName := ⟨RX12, "holds", "(I)Z"⟩
abbrev cX12_isIn : ByteArray := prog_14_method_41_code
def yX12_isIn : MethodName := ⟨RX12, "isIn", "(III)Z"⟩
abbrev cX12_many : ByteArray := prog_14_method_42_code
def yX12_many : MethodName := ⟨RX12, "many", "()I"⟩
abbrev cX12_pointMany : ByteArray := prog_14_method_43_code
def yX12_pointMany : MethodName := ⟨RX12, "pointMany", "()I"⟩
abbrev cX12_isFace : ByteArray := prog_14_method_44_code
def yX12_isFace : MethodName := ⟨RX12, "isFace", "(I)Z"⟩
abbrev cX12_isWhen : ByteArray := prog_14_method_45_code
def yX12_isWhen : MethodName := ⟨RX12, "isWhen", "(II)Z"⟩
abbrev cX12_isPrinterNo : ByteArray := prog_14_method_46_code
def yX12_isPrinterNo : MethodName := ⟨RX12, "isPrinterNo", "(I)Z"⟩
abbrev cX12_sizeOf : ByteArray := prog_14_method_47_code
def yX12_sizeOf : MethodName := ⟨RX12, "sizeOf", "(I)I"⟩
abbrev cX12_measureOf : ByteArray := prog_14_method_48_code
def yX12_measureOf : MethodName := ⟨RX12, "measureOf", "(III)I"⟩
abbrev cX12_lit : ByteArray := prog_14_method_49_code
def yX12_lit : MethodName := ⟨RX12, "lit", "(II)I"⟩
abbrev cX12_layMix : ByteArray := prog_14_method_50_code
def yX12_layMix : MethodName := ⟨RX12, "layMix", "(IIII)V"⟩
abbrev cX12_putBeside : ByteArray := prog_14_method_51_code
def yX12_putBeside : MethodName := ⟨RX12, "putBeside", "()V"⟩
abbrev cX12_farBeside : ByteArray := prog_14_method_52_code
def yX12_farBeside : MethodName := ⟨RX12, "farBeside", "()I"⟩
abbrev cX12_farLive : ByteArray := prog_14_method_53_code
def yX12_farLive : MethodName := ⟨RX12, "farLive", "(III)I"⟩
abbrev cX12_isPass : ByteArray := prog_14_method_54_code
def yX12_isPass : MethodName := ⟨RX12, "isPass", "(III)Z"⟩
abbrev cX12_sumOf : ByteArray := prog_14_method_55_code
def yX12_sumOf : MethodName := ⟨RX12, "sumOf", "()I"⟩
abbrev cX12_edgeOf : ByteArray := prog_14_method_56_code
def yX12_edgeOf : MethodName := ⟨RX12, "edgeOf", "()I"⟩
abbrev cX12_endOf : ByteArray := prog_14_method_57_code
def yX12_endOf : MethodName := ⟨RX12, "endOf", "(Z)I"⟩
abbrev cX12_face : ByteArray := prog_14_method_58_code
def yX12_face : MethodName := ⟨RX12, "face", "(III)I"⟩
abbrev cX12_far : ByteArray := prog_14_method_59_code
def yX12_far : MethodName := ⟨RX12, "far", "(IIII)I"⟩
abbrev cX12_isPassOf : ByteArray := prog_14_method_60_code
def yX12_isPassOf : MethodName := ⟨RX12, "isPassOf", "(IIII)Z"⟩
abbrev cX12_passes : ByteArray := prog_14_method_61_code
def yX12_passes : MethodName := ⟨RX12, "passes", "(IIII)I"⟩
abbrev cX12_isMix : ByteArray := prog_14_method_62_code
def yX12_isMix : MethodName := ⟨RX12, "isMix", "(III)Z"⟩
abbrev cX12_mix : ByteArray := prog_14_method_63_code
def yX12_mix : MethodName := ⟨RX12, "mix", "(IIIII)I"⟩
abbrev cX12_both : ByteArray := prog_14_method_64_code
def yX12_both : MethodName := ⟨RX12, "both", "(IIIII)I"⟩
abbrev cX12_bestShare : ByteArray := prog_14_method_65_code
def yX12_bestShare : MethodName := ⟨RX12, "bestShare", "(IIII)I"⟩
abbrev cX12_able : ByteArray := prog_14_method_66_code
def yX12_able : MethodName := ⟨RX12, "able", "(IIII)I"⟩
abbrev cX12_pairs : ByteArray := prog_14_method_67_code
def yX12_pairs : MethodName := ⟨RX12, "pairs", "(II)I"⟩
abbrev cX12_pair : ByteArray := prog_14_method_68_code
def yX12_pair : MethodName := ⟨RX12, "pair", "(III)I"⟩
abbrev cX12_gate : ByteArray := prog_14_method_69_code
def yX12_gate : MethodName := ⟨RX12, "gate", "(IIII)I"⟩
abbrev cX12_twins : ByteArray := prog_14_method_70_code
def yX12_twins : MethodName := ⟨RX12, "twins", "(II)I"⟩
abbrev cX12_until : ByteArray := prog_14_method_71_code
def yX12_until : MethodName := ⟨RX12, "until", "(II)I"⟩
abbrev cX12_signsOf : ByteArray := prog_14_method_72_code
def yX12_signsOf : MethodName := ⟨RX12, "signsOf", "()I"⟩
abbrev cX12_signs : ByteArray := prog_14_method_73_code
def yX12_signs : MethodName := ⟨RX12, "signs", "(IIII)I"⟩
abbrev cX12_common : ByteArray := prog_14_method_74_code
def yX12_common : MethodName := ⟨RX12, "common", "(II)I"⟩
abbrev cX12_caught : ByteArray := prog_14_method_75_code
def yX12_caught : MethodName := ⟨RX12, "caught", "(II)I"⟩
abbrev cX12_paper : ByteArray := prog_14_method_76_code
def yX12_paper : MethodName := ⟨RX12, "paper", "(IIII)I"⟩
abbrev cX12_untell : ByteArray := prog_14_method_77_code
def yX12_untell : MethodName := ⟨RX12, "untell", "(I)Z"⟩
abbrev cX12_later : ByteArray := prog_14_method_78_code
def yX12_later : MethodName := ⟨RX12, "later", "(I)I"⟩
abbrev cX12_counts : ByteArray := prog_14_method_79_code
def yX12_counts : MethodName := ⟨RX12, "counts", "(II)Z"⟩
abbrev cX12_printerOf : ByteArray := prog_14_method_80_code
def yX12_printerOf : MethodName := ⟨RX12, "printerOf", "(I)I"⟩
abbrev cX12_layPaper : ByteArray := prog_14_method_81_code
def yX12_layPaper : MethodName := ⟨RX12, "layPaper", "(I)V"⟩
abbrev cX12_leastBy : ByteArray := prog_14_method_82_code
def yX12_leastBy : MethodName := ⟨RX12, "leastBy", "(II)I"⟩
abbrev cX12_findBehind : ByteArray := prog_14_method_83_code
def yX12_findBehind : MethodName := ⟨RX12, "findBehind", "(I)Z"⟩
abbrev cX12_isTold : ByteArray := prog_14_method_84_code
def yX12_isTold : MethodName := ⟨RX12, "isTold", "(I)Z"⟩
abbrev cX12_behind : ByteArray := prog_14_method_85_code
def yX12_behind : MethodName := ⟨RX12, "behind", "(III)I"⟩
abbrev cX12_hangs : ByteArray := prog_14_method_86_code
def yX12_hangs : MethodName := ⟨RX12, "hangs", "(II)Z"⟩
abbrev cX12_layRing : ByteArray := prog_14_method_87_code
def yX12_layRing : MethodName := ⟨RX12, "layRing", "(II)I"⟩
abbrev cX12_isFirst : ByteArray := prog_14_method_88_code
def yX12_isFirst : MethodName := ⟨RX12, "isFirst", "(II)Z"⟩
abbrev cX12_rings : ByteArray := prog_14_method_89_code
def yX12_rings : MethodName := ⟨RX12, "rings", "(II)I"⟩
abbrev cX12_ring : ByteArray := prog_14_method_90_code
def yX12_ring : MethodName := ⟨RX12, "ring", "(II)I"⟩
abbrev cX12_between : ByteArray := prog_14_method_91_code
def yX12_between : MethodName := ⟨RX12, "between", "(II)I"⟩
abbrev cX12_isShown : ByteArray := prog_14_method_92_code
def yX12_isShown : MethodName := ⟨RX12, "isShown", "(II)Z"⟩
abbrev cX12_looks : ByteArray := prog_14_method_93_code
def yX12_looks : MethodName := ⟨RX12, "looks", "(III)I"⟩
abbrev cX12_falseOf : ByteArray := prog_14_method_94_code
def yX12_falseOf : MethodName := ⟨RX12, "falseOf", "(IIII)I"⟩
abbrev cX12_isHeld : ByteArray := prog_14_method_95_code
def yX12_isHeld : MethodName := ⟨RX12, "isHeld", "(IIII)Z"⟩
abbrev cX12_costOf : ByteArray := prog_14_method_96_code
def yX12_costOf : MethodName := ⟨RX12, "costOf", "(IIIII)I"⟩
abbrev cX12_isCost : ByteArray := prog_14_method_97_code
def yX12_isCost : MethodName := ⟨RX12, "isCost", "(II)Z"⟩
abbrev cX12_cost : ByteArray := prog_14_method_98_code
def yX12_cost : MethodName := ⟨RX12, "cost", "(IIIII)I"⟩
abbrev cX12_bestBar : ByteArray := prog_14_method_99_code
def yX12_bestBar : MethodName := ⟨RX12, "bestBar", "(IIII)I"⟩
abbrev cX12_kindBar : ByteArray := prog_14_method_100_code
def yX12_kindBar : MethodName := ⟨RX12, "kindBar", "(IIII)I"⟩
abbrev cX12_fair : ByteArray := prog_14_method_101_code
def yX12_fair : MethodName := ⟨RX12, "fair", "(IIII)I"⟩
abbrev cX12_measure : ByteArray := prog_14_method_102_code
def yX12_measure : MethodName := ⟨RX12, "measure", "(II)I"⟩
abbrev cX12_image : ByteArray := prog_14_method_103_code
def yX12_image : MethodName := ⟨RX12, "image", "(I)I"⟩
abbrev cX12_back : ByteArray := prog_14_method_104_code
def yX12_back : MethodName := ⟨RX12, "back", "(I)I"⟩
abbrev cX12_about : ByteArray := prog_14_method_105_code
def yX12_about : MethodName := ⟨RX12, "about", "(I)I"⟩
abbrev cX12_feed : ByteArray := prog_14_method_106_code
def yX12_feed : MethodName := ⟨RX12, "feed", "(IIIII)I"⟩
abbrev cX12_end : ByteArray := prog_14_method_107_code
def yX12_end : MethodName := ⟨RX12, "end", "(I)I"⟩
def RL : String := "TwoFacesLaw"
abbrev cL_law : ByteArray := code
def yL_law : MethodName := ⟨RL, "law", "([I)Z"⟩
abbrev vwCl : List vw_C := [(RX0, TX0, 3), (RX1, TX1, 7), (RX2, TX2, 9), (RX3, TX3, 5), (RX4, TX4, 7), (RX5, TX5, 13), (RX6, TX6, 4), (RX7, TX7, 12), (RX8, TX8, 15), (RX9, TX9, 11), (RX10, TX10, 5), (RX11, TX11, 16), (RX12, TX12, 74)]
