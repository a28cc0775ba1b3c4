/-! the two objects that a call makes for itself: their constructors -/
theorem w_put {p : Program} {l : Launch} {e : Env} {R : Room} {s : State} {m : MethodId} {args : Array Value} {below : List Frame} {meth : Method} {c : Code} {H H0 : Heap} {locs : List Loc} {cells slots : Nat} {Q : State → Prop} {cc : ByteArray} {nL pc : Nat} {own : String} {ls : Array Slot} {rest : List Value} {D : va_G} {cid : Nat → ClassId} {A : Nat → Prop} {ws : va_W} {idx ci k a : Nat} {ty : FieldType} {fin : Bool} {kd : Nat} {fs : List Value} {v : Value} (S : CallFix p m c cc nL s args TS own) (hK : va_K D vwCl (tysOf cid) s) (hini : meth.name = "<init>") (hF : FL own idx ci k ty fin kd) (hcl : (vwCl[ci]?).map (fun q => (q.2.1 k).1) = some own) (hP : va_P D vwCl ws H) (hD : va_D A ws) (hS : va_S A H0 H locs) (q0 : Nat) (he : ws[q0]? = some (a, .inr (ci, fs))) (hlen : k < fs.length) (hn : narrow ty v = v) (hfit : fits ty v = true) (hd : decode cc pc = .ok (.putfield idx, 3))
    (kk : ∀ (H1 : Heap) (locs1 : List Loc), va_P D vwCl (ws.set q0 (a, .inr (ci, fs.set k v))) H1 → va_D A (ws.set q0 (a, .inr (ci, fs.set k v))) → va_S A H0 H1 locs1 → W p l e R s m args below meth c H1 locs1 cells slots Q (F0 m (pc + 3) ls rest)) : W p l e R s m args below meth c H locs cells slots Q (F0 m pc ls (v :: .ref a :: rest)) := by
  obtain ⟨hx, hb, hml, hown, hts⟩ := S
  obtain ⟨C1, T1, N1, ty0, hc, hN, hkN, hlk, hin, hty, hnm, e1, e2, e3⟩ := hF
  have hpd : parseFieldDescriptor (T1 k).2.2.1 = some ty := by rw [hty k hkN, e1]
  cases fin with
  | false => exact va_put hx hb hts hin ty0 hty hnm hown hK hP hD hS q0 he hc k hkN (hts _ hlk) (fun _ h9 => h9) e2 hpd hn hfit hlen hd kk
  | true =>
    have hdecl : (T1 k).1 = own := by rw [hc] at hcl; exact Option.some.inj hcl
    exact va_putF hx hb hts hin ty0 hty hnm hown hK hP hD hS q0 he hc k hkN (hts _ hlk) (fun _ h9 => h9) e2 hini hdecl hpd hn hfit hlen hd kk
set_option maxHeartbeats 4000000 in
theorem tt_init (l : Launch) (D : va_G) (cid : Nat → ClassId) (x tk tw : Nat) (sz : Nat) : Met l yX10_init (Cond.code yX10_init cX10_init 3 none :: TS) { frames := 1, cells := 0, slots := 0, locals := 40 } (va_Pc [.ref x, .ref tk, .ref tw] (fun U => va_P D vwCl [(x, .inr (10, [.null, .null, .int 0, .int 0, .int 0]))] U.heap ∧ va_K D vwCl (tysOf cid) U)) (fun _ st oc t => (oc = .returned none ∧ va_P D vwCl [(x, .inr (10, [.ref tk, .ref tw, .int 0, .int 0, .int 0]))] t.heap) ∧ va_F (fun q => q = x) st t) 0 0 (fun q => q = x) := by
  refine Met.ofW (cc := cX10_init) (maxL := 3) (ret := none) (by decide +kernel) rfl ?_
  intro p e s m args below meth c s₁ B hml hv
  obtain ⟨rfl, hP, hK⟩ := hv
  have hx := B.exec
  have hb := B.bytes
  have hr := B.returns
  have hts0 := atoms_spec (ws := Cond.code yX10_init cX10_init 3 none :: TS) B.pre
  have hts : ∀ w ∈ TS, w.before ([.ref x, .ref tk, .ref tw] : List Value).toArray s = true := fun w h => hts0 w (List.mem_cons_of_mem _ h)
  have hown : s.vm.findClass RX10 = some m.cls := findClass_of_methodNamed B.named
  have hlocks := B.notSynchronized
  have hini : meth.name = "<init>" := (name_of_methodNamed B.named B.method).1
  have hS : va_S (fun q => q = x) s.heap s.heap [] := va_S.rf
  have hD : va_D (fun q => q = x) [(x, (.inr (10, [.null, .null, .int 0, .int 0, .int 0]) : va_E))] := by
    refine ⟨fun i j y z hi hj _ => ?_, fun k y hy => ?_⟩
    · have h1 := (List.getElem?_eq_some_iff.mp hi).1
      have h2 := (List.getElem?_eq_some_iff.mp hj).1
      simp at h1 h2
      omega
    · have h1 := (List.getElem?_eq_some_iff.mp hy).1
      simp at h1
      subst h1
      cases hy
      rfl
  have hl := lv_entry ([.ref x, .ref tk, .ref tw]) (n := 3) (Nat.le_of_ble_eq_true rfl)
  rw [lg_entry_eq]
  generalize (lg_sl ([.ref x, .ref tk, .ref tw]) ++ List.replicate (3 - (lg_sl ([.ref x, .ref tk, .ref tw])).length) Slot.unset).toArray = ls at hl ⊢
  have hl : lv_has ls 3 [(0, .ref x), (1, .ref tk), (2, .ref tw)] := hl
  have CF : CallFix p m c cX10_init 3 s ([.ref x, .ref tk, .ref tw] : List Value).toArray TS RX10 := ⟨hx, hb, hml, hown, hts⟩
  refine lv_aload_n hx hb dX10_init_0 rfl (lv_at hl 0 rfl) ?_
  refine W.objInit hx hb hown (hts _ (obX10_3 _ (by simp))) (hts _ (obX10_3 _ (by simp))) (hts _ (obX10_3 _ (by simp))) rfl (by rw [hml]; exact hl.1) rfl dX10_init_1 (Nat.le_of_ble_eq_true rfl) (Nat.le_of_ble_eq_true rfl) ?_
  refine W.eq (g2 := F0 m 4 ls []) rfl ?_
  refine lv_aload_n hx hb dX10_init_4 rfl (lv_at hl 0 rfl) ?_
  refine lv_iconst hx hb dX10_init_5 (rfl : Int32.ofInt 0 = 0) ?_
  refine w_put CF hK hini flX10_9 rfl hP hD hS 0 rfl (Nat.le_of_ble_eq_true rfl) rfl rfl dX10_init_6 ?_
  clear hP hD hS
  intro H1 locs1 hP hD hS
  refine lv_aload_n hx hb dX10_init_9 rfl (lv_at hl 0 rfl) ?_
  refine lv_iconst hx hb dX10_init_10 (rfl : Int32.ofInt 0 = 0) ?_
  refine w_put CF hK hini flX10_15 rfl hP hD hS 0 rfl (Nat.le_of_ble_eq_true rfl) rfl rfl dX10_init_11 ?_
  clear hP hD hS
  intro H1 locs1 hP hD hS
  refine lv_aload_n hx hb dX10_init_14 rfl (lv_at hl 0 rfl) ?_
  refine lv_iconst hx hb dX10_init_15 (rfl : Int32.ofInt 0 = 0) ?_
  refine w_put CF hK hini flX10_18 rfl hP hD hS 0 rfl (Nat.le_of_ble_eq_true rfl) rfl rfl dX10_init_16 ?_
  clear hP hD hS
  intro H1 locs1 hP hD hS
  refine lv_aload_n hx hb dX10_init_19 rfl (lv_at hl 0 rfl) ?_
  refine lv_aload_n hx hb dX10_init_20 rfl (lv_at hl 1 rfl) ?_
  refine w_put CF hK hini flX10_22 rfl hP hD hS 0 rfl (Nat.le_of_ble_eq_true rfl) rfl rfl dX10_init_21 ?_
  clear hP hD hS
  intro H1 locs1 hP hD hS
  refine lv_aload_n hx hb dX10_init_24 rfl (lv_at hl 0 rfl) ?_
  refine lv_aload_n hx hb dX10_init_25 rfl (lv_at hl 2 rfl) ?_
  refine w_put CF hK hini flX10_26 rfl hP hD hS 0 rfl (Nat.le_of_ble_eq_true rfl) rfl rfl dX10_init_26 ?_
  clear hP hD hS
  intro H1 locs1 hP hD hS
  exact W.vret hx hb hr (fun t ht hW => ⟨⟨rfl, by rw [ht]; exact hP⟩, hS.F ht⟩) hS.2.2 dX10_init_29 hlocks
set_option maxHeartbeats 4000000 in
theorem rt_init (l : Launch) (D : va_G) (cid : Nat → ClassId) (x tk tw : Nat) (v : Int32) (sz : Nat) : Met l yX6_init (Cond.code yX6_init cX6_init 4 none :: TS) { frames := 1, cells := 0, slots := 0, locals := 40 } (va_Pc [.ref x, .ref tk, .ref tw, .int v] (fun U => va_P D vwCl [(x, .inr (6, [.null, .null, .int 0, .int 0]))] U.heap ∧ va_K D vwCl (tysOf cid) U)) (fun _ st oc t => (oc = .returned none ∧ va_P D vwCl [(x, .inr (6, [.ref tk, .ref tw, .int v, .int 0]))] t.heap) ∧ va_F (fun q => q = x) st t) 0 0 (fun q => q = x) := by
  refine Met.ofW (cc := cX6_init) (maxL := 4) (ret := none) (by decide +kernel) rfl ?_
  intro p e s m args below meth c s₁ B hml hv
  obtain ⟨rfl, hP, hK⟩ := hv
  have hx := B.exec
  have hb := B.bytes
  have hr := B.returns
  have hts0 := atoms_spec (ws := Cond.code yX6_init cX6_init 4 none :: TS) B.pre
  have hts : ∀ w ∈ TS, w.before ([.ref x, .ref tk, .ref tw, .int v] : List Value).toArray s = true := fun w h => hts0 w (List.mem_cons_of_mem _ h)
  have hown : s.vm.findClass RX6 = some m.cls := findClass_of_methodNamed B.named
  have hlocks := B.notSynchronized
  have hini : meth.name = "<init>" := (name_of_methodNamed B.named B.method).1
  have hS : va_S (fun q => q = x) s.heap s.heap [] := va_S.rf
  have hD : va_D (fun q => q = x) [(x, (.inr (6, [.null, .null, .int 0, .int 0]) : va_E))] := by
    refine ⟨fun i j y z hi hj _ => ?_, fun k y hy => ?_⟩
    · have h1 := (List.getElem?_eq_some_iff.mp hi).1
      have h2 := (List.getElem?_eq_some_iff.mp hj).1
      simp at h1 h2
      omega
    · have h1 := (List.getElem?_eq_some_iff.mp hy).1
      simp at h1
      subst h1
      cases hy
      rfl
  have hl := lv_entry ([.ref x, .ref tk, .ref tw, .int v]) (n := 4) (Nat.le_of_ble_eq_true rfl)
  rw [lg_entry_eq]
  generalize (lg_sl ([.ref x, .ref tk, .ref tw, .int v]) ++ List.replicate (4 - (lg_sl ([.ref x, .ref tk, .ref tw, .int v])).length) Slot.unset).toArray = ls at hl ⊢
  have hl : lv_has ls 4 [(0, .ref x), (1, .ref tk), (2, .ref tw), (3, .int v)] := hl
  have CF : CallFix p m c cX6_init 4 s ([.ref x, .ref tk, .ref tw, .int v] : List Value).toArray TS RX6 := ⟨hx, hb, hml, hown, hts⟩
  refine lv_aload_n hx hb dX6_init_0 rfl (lv_at hl 0 rfl) ?_
  refine W.objInit hx hb hown (hts _ (obX6_3 _ (by simp))) (hts _ (obX6_3 _ (by simp))) (hts _ (obX6_3 _ (by simp))) rfl (by rw [hml]; exact hl.1) rfl dX6_init_1 (Nat.le_of_ble_eq_true rfl) (Nat.le_of_ble_eq_true rfl) ?_
  refine W.eq (g2 := F0 m 4 ls []) rfl ?_
  refine lv_aload_n hx hb dX6_init_4 rfl (lv_at hl 0 rfl) ?_
  refine lv_iconst hx hb dX6_init_5 (rfl : Int32.ofInt 0 = 0) ?_
  refine w_put CF hK hini flX6_9 rfl hP hD hS 0 rfl (Nat.le_of_ble_eq_true rfl) rfl rfl dX6_init_6 ?_
  clear hP hD hS
  intro H1 locs1 hP hD hS
  refine lv_aload_n hx hb dX6_init_9 rfl (lv_at hl 0 rfl) ?_
  refine lv_aload_n hx hb dX6_init_10 rfl (lv_at hl 1 rfl) ?_
  refine w_put CF hK hini flX6_15 rfl hP hD hS 0 rfl (Nat.le_of_ble_eq_true rfl) rfl rfl dX6_init_11 ?_
  clear hP hD hS
  intro H1 locs1 hP hD hS
  refine lv_aload_n hx hb dX6_init_14 rfl (lv_at hl 0 rfl) ?_
  refine lv_aload_n hx hb dX6_init_15 rfl (lv_at hl 2 rfl) ?_
  refine w_put CF hK hini flX6_19 rfl hP hD hS 0 rfl (Nat.le_of_ble_eq_true rfl) rfl rfl dX6_init_16 ?_
  clear hP hD hS
  intro H1 locs1 hP hD hS
  refine lv_aload_n hx hb dX6_init_19 rfl (lv_at hl 0 rfl) ?_
  refine lv_iload_n hx hb dX6_init_20 rfl (lv_at hl 3 rfl) ?_
  refine w_put CF hK hini flX6_23 rfl hP hD hS 0 rfl (Nat.le_of_ble_eq_true rfl) rfl rfl dX6_init_21 ?_
  clear hP hD hS
  intro H1 locs1 hP hD hS
  exact W.vret hx hb hr (fun t ht hW => ⟨⟨rfl, by rw [ht]; exact hP⟩, hS.F ht⟩) hS.2.2 dX6_init_24 hlocks
