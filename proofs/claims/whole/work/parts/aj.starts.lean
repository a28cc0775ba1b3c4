/-! the start: the String constant -/
theorem start_el : (List.range 192).map (fun j => Cond.eq (.elem (.field (.string "TwoFaces$Tokens" 62) "java/lang/String" "value" "[B") (.int (Int32.ofNat j))) (.int (wby.getD j 0))) = ((flatC (Jvm.Cond.and given_1 narrow_1)).drop 13).take 192 := by decide +kernel
theorem start_S {args : Array Value} {s : State} (hg : (Jvm.Cond.and given_1 narrow_1).before args s = true) (hR : (Cond.stringRef RX8 62 wtx).before args s = true) (h1 : (Cond.laysStatic "java/lang/String" "COMPACT_STRINGS" "Z").before args s = true) (h1i : (Cond.initialized "java/lang/String").before args s = true) (h2 : (Cond.laysStatic "jdk/internal/util/Preconditions" "SIOOBE_FORMATTER" "Ljava/util/function/BiFunction;").before args s = true) (h2i : (Cond.initialized "jdk/internal/util/Preconditions").before args s = true) : SZ s.heap.size s := by
  have hs := flat_of_before _ hg
  have hA : ∀ a : Nat, a < s.heap.size → ¬ Az s.heap.size a := fun a h q => absurd q (Nat.not_le.mpr h)
  obtain ⟨adK, adV, hS, hE⟩ := vk_Sof (args := args) (s := s) (N := 1) (tm := fun _ => .string "TwoFaces$Tokens" 62) (len := [192]) (byt := [wby]) (A := Az s.heap.size)
    (fun i hi => by
      obtain rfl : i = 0 := by omega
      decide)
    (fun i hi => hs _ (List.mem_of_getElem? (i := 9) (by decide +kernel)))
    (fun i hi => hs _ (List.mem_of_getElem? (i := 10) (by decide +kernel)))
    (fun i hi => hs _ (List.mem_of_getElem? (i := 11) (by decide +kernel)))
    (fun i hi => by
      obtain rfl : i = 0 := by omega
      exact hs _ (List.mem_of_getElem? (i := 12) (by decide +kernel)))
    (fun i hi j hj => by
      obtain rfl : i = 0 := by omega
      exact hs _ (va_run start_el j hj))
    (fun i j hi hj hne => absurd (show i = j by omega) hne) hA
  exact ⟨adK, adV, vk_R.of hR (hE 0 (by decide)), hS, va_Zof h1 h1i (va_eqt (hs _ (List.mem_of_getElem? (i := 4) (by decide +kernel)))) hA, va_Zqof h2 h2i (hs _ (List.mem_of_getElem? (i := 5) (by decide +kernel))) hA⟩
