/-! the start: the String constant -/
theorem start_el : (List.range 192).map (fun j => Cond.eq (.elem (.field (.string "TwoFaces$Tokens" 62) "java/lang/String" "value" "[B") (.int (Int32.ofNat j))) (.int (wby.getD j 0))) = ((flatC (Jvm.Cond.and given_1 narrow_1)).drop 13).take 192 := by decide +kernel
