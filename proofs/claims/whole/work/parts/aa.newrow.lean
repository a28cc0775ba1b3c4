/-! town() and rules(): new, the constructor, and the world after -/
theorem wlr_get {cid : Nat → ClassId} {ad : Nat → Nat} {h : CH} {a : Nat} (ha : a < 193) : (wl cid ad (List.range 193) h)[a]? = some (ad a, cellE cid ad h a) := by
  unfold wl
  rw [List.getElem?_map, List.getElem?_range ha]
  rfl
theorem wlr_len {cid : Nat → ClassId} {ad : Nat → Nat} {h : CH} : (wl cid ad (List.range 193) h).length = 193 := by unfold wl; rw [List.length_map, List.length_range]
theorem dfl_at {ci j : Nat} (hj : j < (FT.getD ci []).length) : vp_V (dfl ci) j = if (FT.getD ci []).getD j 9 = 0 then .int 0 else if (FT.getD ci []).getD j 9 = 1 then .long 0 else .null := by
  have e : vp_V (dfl ci) j = ((dfl ci)[j]?).getD .null := List.getD_eq_getElem?_getD ..
  rw [e]
  unfold dfl
  rw [List.getElem?_map, List.getElem?_range hj]
  rfl
theorem va_D_same {A : Nat → Prop} {L1 L2 : va_W} (h : L2.map (fun q => q.1) = L1.map (fun q => q.1)) (hD : va_D A L1) : va_D A L2 := by
  have g : ∀ (k : Nat) (q : Nat × va_E), L2[k]? = some q → ∃ q' : Nat × va_E, L1[k]? = some q' ∧ q'.1 = q.1 := by
    intro k q hq
    have e : (L2.map (fun q => q.1))[k]? = some q.1 := by rw [List.getElem?_map, hq]; rfl
    rw [h, List.getElem?_map] at e
    cases h1 : L1[k]? with
    | none => rw [h1] at e; cases e
    | some q' => rw [h1] at e; exact ⟨q', rfl, Option.some.inj e⟩
  refine ⟨fun i j x y hi hj hxy => ?_, fun k q hq => ?_⟩
  · obtain ⟨x', a1, b1⟩ := g i x hi
    obtain ⟨y', a2, b2⟩ := g j y hj
    exact hD.1 i j x' y' a1 a2 (by rw [b1, b2]; exact hxy)
  · obtain ⟨q', a1, b1⟩ := g k q hq
    rw [← b1]
    exact hD.2 k q' a1
theorem w_getf {p : Program} {l : Launch} {e : Env} {R : Room} {s : State} {m : MethodId} {args : Array Value} {below : List Frame} {meth : Method} {c : Code} {H : Heap} {locs : List Loc} {cells slots : Nat} {Q : State → Prop} {cc : ByteArray} {nL pc : Nat} {own : String} {ls : Array Slot} {rest : List Value} {D : va_G} {cid : Nat → ClassId} {ws : va_W} {idx ci k a : Nat} {ty : FieldType} {fin : Bool} {kd : Nat} {fs : List Value} (v : Value) (S : CallFix p m c cc nL s args TS own) (hK : va_K D vwCl (tysOf cid) s) (hF : FL own idx ci k ty fin kd) (hP : va_P D vwCl ws H) (q0 : Nat) (he : ws[q0]? = some (a, .inr (ci, fs))) (hv : fs[k]? = some v) (hd : decode cc pc = .ok (.getfield idx, 3)) (kk : W p l e R s m args below meth c H locs cells slots Q (F0 m (pc + 3) ls (v :: rest))) : W p l e R s m args below meth c H locs cells slots Q (F0 m pc ls (.ref a :: rest)) := by
  obtain ⟨hx, hb, hml, hown, hts⟩ := S
  obtain ⟨C1, T1, N1, ty0, hc, hN, hkN, hlk, hin, hty, hnm, e1, e2, e3⟩ := hF
  exact va_get hx hb hts hin hown hK hP q0 he hc k hkN (hts _ hlk) (fun _ h9 => h9) hv hd kk
set_option maxHeartbeats 4000000 in
theorem r_newT {σ : Type} {p : Program} {l : Launch} {e : Env} {R : Room} {s : State} {m : MethodId} {args : Array Value} {below : List Frame} {meth : Method} {c : Code} {D : va_G} {cid : Nat → ClassId} {ad : Nat → Nat} {A : Nat → Prop} {cells slots : Nat} {Q : σ → State → Prop} {fr lo : Nat} (C : Cx ((p, l, e, R, s, m, args, below, meth, c, D, cid, ad, List.range 193, A, cells, slots, Q) : Kx σ) cX11_town RX11 2 fr lo []) (hfr : 2 ≤ fr) (hlo : 120 ≤ lo) (hce : cells + 1 ≤ R.cells) (hsl : slots + 5 ≤ R.slots) {h : CH} {o : Option σ}
    (k : ∀ x : Nat, Imp ((p, l, e, R, s, m, args, below, meth, c, D, cid, (adx ad 193 x), (List.range 193 ++ [193]), A, (cells + 1), (slots + 5), Q) : Kx σ) 27 [(0, .ref (ad 0))] [.ref x] (new193 h) o) : Imp ((p, l, e, R, s, m, args, below, meth, c, D, cid, ad, List.range 193, A, cells, slots, Q) : Kx σ) 12 [(0, .ref (ad 0))] [] h o := by
  obtain ⟨CF, hK, hnd, hlv, hT, hA, hfr1, hlo1, hce0, hsl0⟩ := C
  obtain ⟨hx, hb, hml, hown, hts⟩ := id CF
  intro v hv H locs ls0 hP hD hS hl
  obtain ⟨C1, T1, ty0, hc, hN, l1, l2, l3, hin, hty, hkd⟩ := nlX11_114
  refine va_new (ci := 10) (N := 5) (fs := dfl 10) hx hb hts hin ty0 hty hown (hts _ l1) (hts _ l2) (hts _ l3) hK hP hD hS hA hc (fun j hj => ?_) hce hsl dX11_town_12 (fun x H1 hP1 hD1 hS1 => ?_)
  · obtain ⟨g1, g2⟩ := hkd j hj
    rw [kd_def g2, g1, dfl_at (by rw [← hN]; exact hj)]
  have hlast : (wl cid ad (List.range 193) h ++ [(x, (.inr (10, dfl 10) : va_E))])[193]? = some (x, .inr (10, dfl 10)) := by
    rw [List.getElem?_append_right (by rw [wlr_len]; exact Nat.le_refl _), wlr_len]
    rfl
  have hfirst : ∀ (k : Nat) (q : Nat × va_E), (wl cid ad (List.range 193) h)[k]? = some q → (wl cid ad (List.range 193) h ++ [(x, (.inr (10, dfl 10) : va_E))])[k]? = some q := fun k q hk => by
    rw [List.getElem?_append_left (List.getElem?_eq_some_iff.mp hk).1]
    exact hk
  have hPw : va_P D vwCl (wl cid ad (List.range 193) h) H1 := fun k q hk => hP1 k q (hfirst k q hk)
  have hPx : va_P D vwCl [(x, .inr (10, [.null, .null, .int 0, .int 0, .int 0]))] H1 := fun k q hk => by
    have hz : k < 1 := (List.getElem?_eq_some_iff.mp hk).1
    have h0 : k = 0 := by omega
    subst h0
    cases hk
    exact hP1 193 _ hlast
  have hxA : A x := hD1.2 193 _ hlast
  have hxn : ∀ (k : Nat) (q : Nat × va_E), (wl cid ad (List.range 193) h)[k]? = some q → q.1 ≠ x := fun k q hk e0 => by
    have h1 := hD1.1 k 193 q _ (hfirst k q hk) hlast e0
    have h2 := (List.getElem?_eq_some_iff.mp hk).1
    rw [wlr_len] at h2
    omega
  have he0 : (wl cid ad (List.range 193) h)[0]? = some (ad 0, .inr (11, fvs ad h 0 11)) := by rw [wlr_get (by decide)]; rfl
  refine lv_dup hx hb dX11_town_15 rfl ?_
  refine lv_aload_n hx hb dX11_town_16 rfl (lv_at hl 0 rfl) ?_
  refine w_getf (.ref (ad 2)) CF hK flX11_28 hPw 0 he0 rfl dX11_town_17 ?_
  refine lv_aload_n hx hb dX11_town_20 rfl (lv_at hl 0 rfl) ?_
  refine w_getf (.ref (ad 31)) CF hK flX11_39 hPw 0 he0 rfl dX11_town_21 ?_
  have hgood : GoodIn TS (Cond.code yX10_init cX10_init 3 none :: TS) := by
    intro w hw
    have hm : w ∈ TS := by
      rcases List.mem_cons.mp hw with g | g
      · exact liX11_116.1 w (by rw [g]; simp)
      · exact g
    exact ⟨hm, TS_good w hm⟩
  have hpre : PreS s H1 (va_Pc (.ref x :: [.ref (ad 2), .ref (ad 31)]) (fun U => va_P D vwCl [(x, .inr (10, [.null, .null, .int 0, .int 0, .int 0]))] U.heap ∧ va_K D vwCl (tysOf cid) U)) (.ref x :: [.ref (ad 2), .ref (ad 31)]) :=
    ⟨fun a U g mk q => by
      obtain ⟨q0, qP, qK⟩ := q
      exact ⟨q0, qP, va_K.moved (u := U) (U := U.calling g mk a) (Vm.Alike.refl U.vm) qK⟩, fun U hU hW => ⟨rfl, by rw [hU]; exact hPx, va_K.moved hW.alike hK⟩⟩
  refine va_callgx (A1 := fun q => q = x) (va_runI (g := F0 m 24 ls0 [.ref (ad 31), .ref (ad 2), .ref x, .ref x]) CF (tt_init l D cid x (ad 2) (ad 31) 0) (cwI 2 hts hgood rfl rfl rfl (hts _ (liX11_116.1 _ (by simp))) (hts _ (liX11_116.1 _ (by simp))) (hts _ (liX11_116.1 _ (by simp))) liX11_116.2.1 ⟨liX11_116.2.2.1.1, liX11_116.2.2.1.2, liX11_116.2.2.2⟩ ⟨Nat.le_trans hfr hfr1, by show 8 + (3 + 11) + 40 ≤ R.locals; omega⟩) hpre rfl rfl (hl.1.trans hml) (rest := [.ref x]) rfl (lv_room (Nat.le_of_ble_eq_true rfl)) dX11_town_24 ⟨hce, hsl⟩) hS1 (fun q _ hq => by rw [hq]; exact hxA) (fun q hq => by rw [hq]; exact hxA) (fun t H2 locs2 ht hvm hB hS2 hz2 hk2 => ?_)
  have hce' : cellE cid (adx ad 193 x) (new193 h) 193 = .inr (10, [.ref (ad 2), .ref (ad 31), .int 0, .int 0, .int 0]) := by
    unfold cellE
    rw [kt_193]
    rfl
  have hj : wl cid (adx ad 193 x) (List.range 193 ++ [193]) (new193 h) = wl cid ad (List.range 193) h ++ [(x, .inr (10, [.ref (ad 2), .ref (ad 31), .int 0, .int 0, .int 0]))] := by
    rw [wl_join (h := h) (h' := new193 h) (n := 193) (by decide) (fun a ha => by funext j; simp [new193, sI, ha]) rfl, hce']
  have hP2 : va_P D vwCl (wl cid (adx ad 193 x) (List.range 193 ++ [193]) (new193 h)) H2 := by
    rw [hj]
    rw [ht] at hB
    exact (hPw.kept (fun k q hq => hk2 q.1 ((hPw k q hq).lt) (hxn k q hq))).app hB
  have hD2 : va_D A (wl cid (adx ad 193 x) (List.range 193 ++ [193]) (new193 h)) := by
    rw [hj]
    exact va_D_same (by rw [List.map_append, List.map_append]; rfl) hD1
  exact k x v hv H2 locs2 ls0 hP2 hD2 hS2 hl
set_option maxHeartbeats 4000000 in
theorem r_newR {σ : Type} {p : Program} {l : Launch} {e : Env} {R : Room} {s : State} {m : MethodId} {args : Array Value} {below : List Frame} {meth : Method} {c : Code} {D : va_G} {cid : Nat → ClassId} {ad : Nat → Nat} {A : Nat → Prop} {cells slots : Nat} {Q : σ → State → Prop} {fr lo : Nat} (C : Cx ((p, l, e, R, s, m, args, below, meth, c, D, cid, ad, List.range 193, A, cells, slots, Q) : Kx σ) cX11_rules RX11 2 fr lo []) (hfr : 2 ≤ fr) (hlo : 120 ≤ lo) (hce : cells + 1 ≤ R.cells) (hsl : slots + 4 ≤ R.slots) {h : CH} {o : Option σ}
    (k : ∀ x : Nat, Imp ((p, l, e, R, s, m, args, below, meth, c, D, cid, (adx ad 194 x), (List.range 193 ++ [194]), A, (cells + 1), (slots + 4), Q) : Kx σ) 47 [(0, .ref (ad 0))] [.ref x] (new194 (h.1 7 0) h) o) : Imp ((p, l, e, R, s, m, args, below, meth, c, D, cid, ad, List.range 193, A, cells, slots, Q) : Kx σ) 25 [(0, .ref (ad 0))] [] h o := by
  obtain ⟨CF, hK, hnd, hlv, hT, hA, hfr1, hlo1, hce0, hsl0⟩ := C
  obtain ⟨hx, hb, hml, hown, hts⟩ := id CF
  intro v hv H locs ls0 hP hD hS hl
  obtain ⟨C1, T1, ty0, hc, hN, l1, l2, l3, hin, hty, hkd⟩ := nlX11_142
  refine va_new (ci := 6) (N := 4) (fs := dfl 6) hx hb hts hin ty0 hty hown (hts _ l1) (hts _ l2) (hts _ l3) hK hP hD hS hA hc (fun j hj => ?_) hce hsl dX11_rules_25 (fun x H1 hP1 hD1 hS1 => ?_)
  · obtain ⟨g1, g2⟩ := hkd j hj
    rw [kd_def g2, g1, dfl_at (by rw [← hN]; exact hj)]
  have hlast : (wl cid ad (List.range 193) h ++ [(x, (.inr (6, dfl 6) : va_E))])[193]? = some (x, .inr (6, dfl 6)) := by
    rw [List.getElem?_append_right (by rw [wlr_len]; exact Nat.le_refl _), wlr_len]
    rfl
  have hfirst : ∀ (k : Nat) (q : Nat × va_E), (wl cid ad (List.range 193) h)[k]? = some q → (wl cid ad (List.range 193) h ++ [(x, (.inr (6, dfl 6) : va_E))])[k]? = some q := fun k q hk => by
    rw [List.getElem?_append_left (List.getElem?_eq_some_iff.mp hk).1]
    exact hk
  have hPw : va_P D vwCl (wl cid ad (List.range 193) h) H1 := fun k q hk => hP1 k q (hfirst k q hk)
  have hPx : va_P D vwCl [(x, .inr (6, [.null, .null, .int 0, .int 0]))] H1 := fun k q hk => by
    have hz : k < 1 := (List.getElem?_eq_some_iff.mp hk).1
    have h0 : k = 0 := by omega
    subst h0
    cases hk
    exact hP1 193 _ hlast
  have hxA : A x := hD1.2 193 _ hlast
  have hxn : ∀ (k : Nat) (q : Nat × va_E), (wl cid ad (List.range 193) h)[k]? = some q → q.1 ≠ x := fun k q hk e0 => by
    have h1 := hD1.1 k 193 q _ (hfirst k q hk) hlast e0
    have h2 := (List.getElem?_eq_some_iff.mp hk).1
    rw [wlr_len] at h2
    omega
  have he0 : (wl cid ad (List.range 193) h)[0]? = some (ad 0, .inr (11, fvs ad h 0 11)) := by rw [wlr_get (by decide)]; rfl
  refine lv_dup hx hb dX11_rules_28 rfl ?_
  refine lv_aload_n hx hb dX11_rules_29 rfl (lv_at hl 0 rfl) ?_
  refine w_getf (.ref (ad 2)) CF hK flX11_28 hPw 0 he0 rfl dX11_rules_30 ?_
  refine lv_aload_n hx hb dX11_rules_33 rfl (lv_at hl 0 rfl) ?_
  refine w_getf (.ref (ad 63)) CF hK flX11_49 hPw 0 he0 rfl dX11_rules_34 ?_
  have he7 : (wl cid ad (List.range 193) h)[7]? = some (ad 7, .inr (9, fvs ad h 7 9)) := by rw [wlr_get (by decide)]; rfl
  refine lv_aload_n hx hb dX11_rules_37 rfl (lv_at hl 0 rfl) ?_
  refine w_getf (.ref (ad 7)) CF hK flX11_35 hPw 0 he0 rfl dX11_rules_38 ?_
  refine w_getf (.int (h.1 7 0)) CF hK flX11_144 hPw 7 he7 rfl dX11_rules_41 ?_
  have hgood : GoodIn TS (Cond.code yX6_init cX6_init 4 none :: TS) := by
    intro w hw
    have hm : w ∈ TS := by
      rcases List.mem_cons.mp hw with g | g
      · exact liX11_147.1 w (by rw [g]; simp)
      · exact g
    exact ⟨hm, TS_good w hm⟩
  have hpre : PreS s H1 (va_Pc (.ref x :: [.ref (ad 2), .ref (ad 63), .int (h.1 7 0)]) (fun U => va_P D vwCl [(x, .inr (6, [.null, .null, .int 0, .int 0]))] U.heap ∧ va_K D vwCl (tysOf cid) U)) (.ref x :: [.ref (ad 2), .ref (ad 63), .int (h.1 7 0)]) :=
    ⟨fun a U g mk q => by
      obtain ⟨q0, qP, qK⟩ := q
      exact ⟨q0, qP, va_K.moved (u := U) (U := U.calling g mk a) (Vm.Alike.refl U.vm) qK⟩, fun U hU hW => ⟨rfl, by rw [hU]; exact hPx, va_K.moved hW.alike hK⟩⟩
  refine va_callgx (A1 := fun q => q = x) (va_runI (g := F0 m 44 ls0 [.int (h.1 7 0), .ref (ad 63), .ref (ad 2), .ref x, .ref x]) CF (rt_init l D cid x (ad 2) (ad 63) (h.1 7 0) 0) (cwI 3 hts hgood rfl rfl rfl (hts _ (liX11_147.1 _ (by simp))) (hts _ (liX11_147.1 _ (by simp))) (hts _ (liX11_147.1 _ (by simp))) liX11_147.2.1 ⟨liX11_147.2.2.1.1, liX11_147.2.2.1.2, liX11_147.2.2.2⟩ ⟨Nat.le_trans hfr hfr1, by show 8 + (4 + 11) + 40 ≤ R.locals; omega⟩) hpre rfl rfl (hl.1.trans hml) (rest := [.ref x]) rfl (lv_room (Nat.le_of_ble_eq_true rfl)) dX11_rules_44 ⟨hce, hsl⟩) hS1 (fun q _ hq => by rw [hq]; exact hxA) (fun q hq => by rw [hq]; exact hxA) (fun t H2 locs2 ht hvm hB hS2 hz2 hk2 => ?_)
  have hce' : cellE cid (adx ad 194 x) (new194 (h.1 7 0) h) 194 = .inr (6, [.ref (ad 2), .ref (ad 63), .int (h.1 7 0), .int 0]) := by
    unfold cellE
    rw [kt_194]
    rfl
  have hj : wl cid (adx ad 194 x) (List.range 193 ++ [194]) (new194 (h.1 7 0) h) = wl cid ad (List.range 193) h ++ [(x, .inr (6, [.ref (ad 2), .ref (ad 63), .int (h.1 7 0), .int 0]))] := by
    rw [wl_join (h := h) (h' := new194 (h.1 7 0) h) (n := 194) (by decide) (fun a ha => by funext j; simp [new194, sI, ha]) rfl, hce']
  have hP2 : va_P D vwCl (wl cid (adx ad 194 x) (List.range 193 ++ [194]) (new194 (h.1 7 0) h)) H2 := by
    rw [hj]
    rw [ht] at hB
    exact (hPw.kept (fun k q hq => hk2 q.1 ((hPw k q hq).lt) (hxn k q hq))).app hB
  have hD2 : va_D A (wl cid (adx ad 194 x) (List.range 193 ++ [194]) (new194 (h.1 7 0) h)) := by
    rw [hj]
    exact va_D_same (by rw [List.map_append, List.map_append]; rfl) hD1
  exact k x v hv H2 locs2 ls0 hP2 hD2 hS2 hl
