/-! making: the reference's end -/
def f_X12_tail_L340  : Nat → Int32 → CH → Option (Unit × CH)
  | 0, _, _ => none
  | n + 1, x1, h =>
    (if (x1) < ((nI 3)) then wrA h 185 3 (x1) ((-1)) fun h_3 => f_X12_tail_L340 n (x1 + (nI 1)) h_3 else some ((), h))
def f_X12_tail  (h : CH) : Option (Unit × CH) :=
  cl (f_X12_clearBank h) fun _ h_1 => f_X12_tail_L340 FU ((nI 0)) h_1
set_option maxHeartbeats 4000000 in
set_option maxRecDepth 100000 in
theorem imp_f_X12_tail_L340 {κ : Kx (Unit × CH)} (C : Cx κ cX12_init RX12 2 2 (40 * 2) [])     (Rr : Rt κ none (fun (_ : Unit × CH) (_ : Nat → Nat) => (none : Option Value)) (fun (q : (Unit × CH)) => q.2)) : ∀ (n : Nat) (x1 : Int32) (h : CH), Imp κ 340 [(0, .ref (kad κ 151)), (1, .int (x1))] [] h (f_X12_tail_L340 n x1 h) := by
  intro n
  induction n with
  | zero => intros; exact imp_none
  | succ n ih =>
    intro x1 h
    rw [f_X12_tail_L340]
    refine r_iload_n C 341 1 rfl dX12_init_340 rfl ?_
    refine r_iconst C 342 (nI 3) (by decide) dX12_init_341 rfl ?_
    refine r_icmp_ge C 345 358 dX12_init_342 (by decide) rfl (fun c_2 => ?_) (fun c_2 => ?_)
    · refine r_aload_n C 346 0 rfl dX12_init_345 rfl ?_
      refine r_getR C 349 dX12_init_346 flX12_116 kt_151 rfl rf_151_66 rfl ?_
      refine r_iload_n C 350 1 rfl dX12_init_349 rfl ?_
      refine r_iconst C 351 (-1) (by decide) dX12_init_350 rfl ?_
      refine r_iast C 352 dX12_init_351 kt_185 rfl rfl (fun h_3 => ?_)
      refine r_iinc C 355 1 (nI 1) [(1, .int (x1 + (nI 1))), (0, .ref (kad κ 151))] dX12_init_352 rfl (by decide) (by decide) rfl rfl ?_
      refine r_goto C 340 dX12_init_355 (by decide) ?_
      exact imp_sub [(0, .ref (kad κ 151)), (1, .int (x1 + (nI 1)))] [1, 0] rfl (ih (x1 + (nI 1)) h_3)
    · exact r_vret C Rr dX12_init_358 (fun _ => rfl) rfl
set_option maxHeartbeats 4000000 in
set_option maxRecDepth 100000 in
theorem imp_f_X12_tail {κ : Kx (Unit × CH)} (C : Cx κ cX12_init RX12 2 2 (40 * 2) [])   (h : CH) (Rr : Rt κ none (fun (_ : Unit × CH) (_ : Nat → Nat) => (none : Option Value)) (fun (q : (Unit × CH)) => q.2)) : Imp κ 334 [(0, .ref (kad κ 151))] [] h (f_X12_tail h) := by
  unfold f_X12_tail
  refine r_aload_n C 335 0 rfl dX12_init_334 rfl ?_
  refine r_cViV C 338 [] (ok_f_X12_clearBank h) dX12_init_335 lvX12_140 kt_151 rfl rfl rfl (by decide) (Nat.le_of_ble_eq_true rfl) rfl rfl (Nat.le_of_ble_eq_true rfl) rfl rfl (fun _ h_1 => ?_)
  refine r_iconst C 339 (nI 0) (by decide) dX12_init_338 rfl ?_
  refine r_istore_n C 340 1 [(1, .int ((nI 0))), (0, .ref (kad κ 151))] dX12_init_339 rfl (by decide) rfl rfl ?_
  refine imp_sub [(0, .ref (kad κ 151)), (1, .int ((nI 0)))] [1, 0] rfl ?_
  refine imp_f_X12_tail_L340 C Rr FU ((nI 0)) h_1
