/-! town() and rules() do what the functions say -/
theorem imp_widen {σ : Type} {p : Program} {l : Launch} {e : Env} {R : Room} {s : State} {m : MethodId} {args : Array Value} {below : List Frame} {meth : Method} {c : Code} {D : va_G} {cid : Nat → ClassId} {ad : Nat → Nat} {lv : List Nat} {A : Nat → Prop} {ce sl ce2 sl2 : Nat} {Q : σ → State → Prop} {pc : Nat} {ls : List (Nat × Value)} {st : List Value} {h : CH} {o : Option σ} (h1 : ce ≤ ce2) (h2 : sl ≤ sl2)
    (k : Imp ((p, l, e, R, s, m, args, below, meth, c, D, cid, ad, lv, A, ce2, sl2, Q) : Kx σ) pc ls st h o) : Imp ((p, l, e, R, s, m, args, below, meth, c, D, cid, ad, lv, A, ce, sl, Q) : Kx σ) pc ls st h o := by
  intro v hv H locs ls0 hP hD hS hl
  exact W.widen h1 h2 (k v hv H locs ls0 hP hD hS hl)
theorem rng_in {x : List Nat} : ∀ a, a < NP → a ∈ List.range 193 ++ x := fun a ha => List.mem_append_left _ (List.mem_range.mpr ha)
theorem rng_nd {n : Nat} (hn : 193 ≤ n) : (List.range 193 ++ [n]).Nodup := by
  rw [List.nodup_append]
  refine ⟨List.nodup_range, by simp, fun a ha b hb => ?_⟩
  have := List.mem_range.mp ha
  have := List.mem_singleton.mp hb
  omega
set_option maxHeartbeats 4000000 in
set_option maxRecDepth 100000 in
theorem ok_f_X11_town (h : CH) : ∀ q, f_X11_town h = some q → MN yX11_town cX11_town 2 (some .int) 7 1 5 (fun ad => [.ref (ad 0)]) h (some (.int q.1)) q.2 := by
  refine mn_of RX11 (by decide) rfl (fun _ => Nat.le_of_ble_eq_true rfl) (fun p l e R s m args below meth c D cid ad A Q CC RR => ?_)
  have C := CC ad (List.range 193) 0 0 [] List.nodup_range (fun a ha => List.mem_range.mpr ha) (fun a ha => (by cases ha)) (Nat.zero_le _) (Nat.zero_le _)
  obtain ⟨-, -, -, -, -, -, -, -, hce, hsl⟩ := CC ad (List.range 193) 1 5 [] List.nodup_range (fun a ha => List.mem_range.mpr ha) (fun a ha => (by cases ha)) (Nat.le_refl _) (Nat.le_refl _)
  show Imp _ 0 [(0, .ref (ad 0))] [] h (cl (f_X8_open (h.1 0 1) (nI 0) h) fun _ h_1 => f_X11_townT (new193 h_1))
  refine r_aload_n C 1 0 rfl dX11_town_0 rfl ?_
  refine r_getR C 4 dX11_town_1 flX11_28 kt_0 rfl rf_0_4 rfl ?_
  refine r_aload_n C 5 0 rfl dX11_town_4 rfl ?_
  refine r_getI C 8 dX11_town_5 flX11_13 kt_0 rfl rfl ?_
  refine r_iconst C 9 (nI 0) (by decide) dX11_town_8 rfl ?_
  refine r_cViV C 12 [] (ok_f_X8_open (h.1 0 1) ((nI 0)) h) dX11_town_9 lvX11_110 kt_2 rfl rfl rfl (by decide) (Nat.le_of_ble_eq_true rfl) rfl rfl (Nat.le_of_ble_eq_true rfl) rfl rfl (fun _ h_1 => ?_)
  refine r_newT C (by decide) (by decide) hce hsl (fun x => ?_)
  exact imp_f_X11_townT (CC (adx ad 193 x) (List.range 193 ++ [193]) (0 + 1) (0 + 5) [193] (rng_nd (by decide)) rng_in (fun a ha => List.mem_append_right _ ha) (by decide) (by decide)) (new193 h_1) (RR (adx ad 193 x) [193] (fun a ha => if_neg (by omega)))
set_option maxHeartbeats 4000000 in
set_option maxRecDepth 100000 in
theorem ok_f_X11_rules (h : CH) : ∀ q, f_X11_rules h = some q → MN yX11_rules cX11_rules 2 (some .int) 107 1 4 (fun ad => [.ref (ad 0)]) h (some (.int q.1)) q.2 := by
  refine mn_of RX11 (by decide) rfl (fun _ => Nat.le_of_ble_eq_true rfl) (fun p l e R s m args below meth c D cid ad A Q CC RR => ?_)
  have C := CC ad (List.range 193) 0 0 [] List.nodup_range (fun a ha => List.mem_range.mpr ha) (fun a ha => (by cases ha)) (Nat.zero_le _) (Nat.zero_le _)
  have C1 := CC ad (List.range 193) 1 4 [] List.nodup_range (fun a ha => List.mem_range.mpr ha) (fun a ha => (by cases ha)) (Nat.le_refl _) (Nat.le_refl _)
  have R1 := RR ad [] (fun _ _ => rfl)
  rw [List.append_nil] at R1
  obtain ⟨-, -, -, -, -, -, -, -, hce, hsl⟩ := id C1
  show Imp _ 0 [(0, .ref (ad 0))] [] h (if nI 800 < h.1 0 1 then some ((-2 : Int32), h) else cl (f_X8_open (h.1 0 1) (nI 1) h) fun _ h_1 => f_X11_rulesT (new194 (h_1.1 7 0) h_1))
  refine r_aload_n C 1 0 rfl dX11_rules_0 rfl ?_
  refine r_getI C 4 dX11_rules_1 flX11_13 kt_0 rfl rfl ?_
  refine r_sipush C 7 (nI 800) (by decide) dX11_rules_4 rfl ?_
  refine r_icmp_le C 10 13 dX11_rules_7 (by decide) rfl (fun c_1 => ?_) (fun c_1 => ?_)
  · refine r_bipush C 12 (-2) (by decide) dX11_rules_10 rfl ?_
    refine imp_widen (Nat.zero_le 1) (Nat.zero_le 4) ?_
    exact r_iret C1 R1 dX11_rules_12 (fun _ => rfl) rfl
  · refine r_aload_n C 14 0 rfl dX11_rules_13 rfl ?_
    refine r_getR C 17 dX11_rules_14 flX11_28 kt_0 rfl rf_0_4 rfl ?_
    refine r_aload_n C 18 0 rfl dX11_rules_17 rfl ?_
    refine r_getI C 21 dX11_rules_18 flX11_13 kt_0 rfl rfl ?_
    refine r_iconst C 22 (nI 1) (by decide) dX11_rules_21 rfl ?_
    refine r_cViV C 25 [] (ok_f_X8_open (h.1 0 1) ((nI 1)) h) dX11_rules_22 lvX11_110 kt_2 rfl rfl rfl (by decide) (Nat.le_of_ble_eq_true rfl) rfl rfl (Nat.le_of_ble_eq_true rfl) rfl rfl (fun _ h_2 => ?_)
    refine r_newR C (by decide) (by decide) hce hsl (fun x => ?_)
    exact imp_f_X11_rulesT (CC (adx ad 194 x) (List.range 193 ++ [194]) (0 + 1) (0 + 4) [194] (rng_nd (by decide)) rng_in (fun a ha => List.mem_append_right _ ha) (by decide) (by decide)) (new194 (h_2.1 7 0) h_2) (RR (adx ad 194 x) [194] (fun a ha => if_neg (by omega)))
