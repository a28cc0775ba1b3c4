/-! making: the constructors walked (a5c.tok has tok_loop, a5d.mod mod_tail) -/
def hz_2 (h : CH) : CH := tokW (sI (sI (sL (sI (sI (sI (sI (sI (sI (sI (h) 2 5 (0)) 2 6 (0)) 2 7 (0)) 2 8 (0)) 2 9 (-1)) 2 10 (26)) 2 11 (0)) 2 12 (0)) 2 13 (0)) 2 14 (-1))
set_option maxRecDepth 20000 in
theorem mz_2 (h : CH) : MZ yX8_init cX8_init 3 3 7 [(2, 0), (2, 1), (2, 2), (2, 3), (2, 4), (0, 4), (0, 5), (0, 6), (0, 7), (0, 8), (0, 9), (0, 10), (0, 11), (0, 12), (0, 13), (0, 14), (0, 15)] [(0, 4), (0, 5), (0, 6), (0, 7), (0, 8), (0, 9), (0, 10), (0, 11), (0, 12), (0, 13), (0, 14), (0, 15)] 8 400 4 4827 (fun sz => [.ref (sz + 2), .ref (sz + 1)]) h (hz_2 h) := by
  refine mz_of RX8 (by decide +kernel) rfl rfl (fun sz => Nat.le_of_ble_eq_true rfl) (fun κ C Z => ?_)
  refine z_aload C 1 0 rfl dX8_init_0 rfl ?_
  refine z_obj C 4 dX8_init_1 obX8_3 (by decide) (by decide) (Nat.le_of_ble_eq_true rfl) rfl ?_
  refine z_aload C 5 0 rfl dX8_init_4 rfl ?_
  refine z_bipush C 7 (24) (by decide) dX8_init_5 rfl ?_
  refine z_newaL C 9 dX8_init_7 ac_long kt_3 (by decide) (by decide) (by decide) (Nat.le_of_ble_eq_true rfl) (Nat.le_of_ble_eq_true rfl) rfl ?_
  refine z_putR C 12 [(2, 0), (2, 2), (2, 3), (2, 4), (0, 4), (0, 5), (0, 6), (0, 7), (0, 8), (0, 9), (0, 10), (0, 11), (0, 12), (0, 13), (0, 14), (0, 15)] (Or.inr ⟨_, rfl⟩) rf_2_1 rfl dX8_init_9 flX8_11 kt_2 (by decide) rfl rfl ?_
  refine z_aload C 13 0 rfl dX8_init_12 rfl ?_
  refine z_sipush C 16 (1601) (by decide) dX8_init_13 rfl ?_
  refine z_newaI C 18 dX8_init_16 ac_int kt_4 (by decide) (by decide) (by decide) (Nat.le_of_ble_eq_true rfl) (Nat.le_of_ble_eq_true rfl) rfl ?_
  refine z_putR C 21 [(2, 0), (2, 3), (2, 4), (0, 4), (0, 5), (0, 6), (0, 7), (0, 8), (0, 9), (0, 10), (0, 11), (0, 12), (0, 13), (0, 14), (0, 15)] (Or.inr ⟨_, rfl⟩) rf_2_2 rfl dX8_init_18 flX8_15 kt_2 (by decide) rfl rfl ?_
  refine z_aload C 22 0 rfl dX8_init_21 rfl ?_
  refine z_sipush C 25 (1601) (by decide) dX8_init_22 rfl ?_
  refine z_newaI C 27 dX8_init_25 ac_int kt_5 (by decide) (by decide) (by decide) (Nat.le_of_ble_eq_true rfl) (Nat.le_of_ble_eq_true rfl) rfl ?_
  refine z_putR C 30 [(2, 0), (2, 4), (0, 4), (0, 5), (0, 6), (0, 7), (0, 8), (0, 9), (0, 10), (0, 11), (0, 12), (0, 13), (0, 14), (0, 15)] (Or.inr ⟨_, rfl⟩) rf_2_3 rfl dX8_init_27 flX8_19 kt_2 (by decide) rfl rfl ?_
  refine z_aload C 31 0 rfl dX8_init_30 rfl ?_
  refine z_sipush C 34 (1601) (by decide) dX8_init_31 rfl ?_
  refine z_newaL C 36 dX8_init_34 ac_long kt_6 (by decide) (by decide) (by decide) (Nat.le_of_ble_eq_true rfl) (Nat.le_of_ble_eq_true rfl) rfl ?_
  refine z_putR C 39 [(2, 0), (0, 4), (0, 5), (0, 6), (0, 7), (0, 8), (0, 9), (0, 10), (0, 11), (0, 12), (0, 13), (0, 14), (0, 15)] (Or.inr ⟨_, rfl⟩) rf_2_4 rfl dX8_init_36 flX8_22 kt_2 (by decide) rfl rfl ?_
  refine z_aload C 40 0 rfl dX8_init_39 rfl ?_
  refine z_iconst C 41 (0) (by decide) dX8_init_40 rfl ?_
  refine z_putI C 44 dX8_init_41 flX8_25 kt_2 (by decide) rfl rfl ?_
  refine z_aload C 45 0 rfl dX8_init_44 rfl ?_
  refine z_iconst C 46 (0) (by decide) dX8_init_45 rfl ?_
  refine z_putZ C 49 (by decide) (by decide) dX8_init_46 flX8_29 kt_2 (by decide) rfl rfl ?_
  refine z_aload C 50 0 rfl dX8_init_49 rfl ?_
  refine z_iconst C 51 (0) (by decide) dX8_init_50 rfl ?_
  refine z_putI C 54 dX8_init_51 flX8_33 kt_2 (by decide) rfl rfl ?_
  refine z_aload C 55 0 rfl dX8_init_54 rfl ?_
  refine z_iconst C 56 (0) (by decide) dX8_init_55 rfl ?_
  refine z_putI C 59 dX8_init_56 flX8_36 kt_2 (by decide) rfl rfl ?_
  refine z_aload C 60 0 rfl dX8_init_59 rfl ?_
  refine z_iconst C 61 (-1) (by decide) dX8_init_60 rfl ?_
  refine z_putI C 64 dX8_init_61 flX8_39 kt_2 (by decide) rfl rfl ?_
  refine z_aload C 65 0 rfl dX8_init_64 rfl ?_
  refine z_bipush C 67 (26) (by decide) dX8_init_65 rfl ?_
  refine z_putI C 70 dX8_init_67 flX8_42 kt_2 (by decide) rfl rfl ?_
  refine z_aload C 71 0 rfl dX8_init_70 rfl ?_
  refine z_iconst C 72 (0) (by decide) dX8_init_71 rfl ?_
  refine z_putI C 75 dX8_init_72 flX8_45 kt_2 (by decide) rfl rfl ?_
  refine z_aload C 76 0 rfl dX8_init_75 rfl ?_
  refine z_lconst C 77 (0) (by decide) dX8_init_76 rfl ?_
  refine z_putJ C 80 dX8_init_77 flX8_48 kt_2 (by decide) rfl rfl ?_
  refine z_aload C 81 0 rfl dX8_init_80 rfl ?_
  refine z_iconst C 82 (0) (by decide) dX8_init_81 rfl ?_
  refine z_putI C 85 dX8_init_82 flX8_52 kt_2 (by decide) rfl rfl ?_
  refine z_aload C 86 0 rfl dX8_init_85 rfl ?_
  refine z_iconst C 87 (-1) (by decide) dX8_init_86 rfl ?_
  refine z_putI C 90 dX8_init_87 flX8_55 kt_2 (by decide) rfl rfl ?_
  refine z_aload C 91 0 rfl dX8_init_90 rfl ?_
  refine z_aload C 92 1 rfl dX8_init_91 rfl ?_
  refine z_putR C 95 [(0, 4), (0, 5), (0, 6), (0, 7), (0, 8), (0, 9), (0, 10), (0, 11), (0, 12), (0, 13), (0, 14), (0, 15)] (Or.inr ⟨_, rfl⟩) rf_2_0 rfl dX8_init_92 flX8_58 kt_2 (by decide) rfl rfl ?_
  exact tok_loop C Z
def hz_7 (h : CH) : CH := sI (sI (sI (sI (h) 7 0 (5)) 7 1 (20)) 7 2 (0)) 7 3 (0)
set_option maxRecDepth 20000 in
theorem mz_7 (h : CH) : MZ yX9_init cX9_init 1 8 31 [(7, 4), (7, 5), (7, 6), (7, 7), (7, 8), (7, 9), (7, 10), (0, 5), (0, 6), (0, 7), (0, 8), (0, 9), (0, 10), (0, 11), (0, 12), (0, 13), (0, 14), (0, 15)] [(0, 5), (0, 6), (0, 7), (0, 8), (0, 9), (0, 10), (0, 11), (0, 12), (0, 13), (0, 14), (0, 15)] 1 40 23 216 (fun sz => [.ref (sz + 7)]) h (hz_7 h) := by
  refine mz_of RX9 (by decide +kernel) rfl rfl (fun sz => Nat.le_of_ble_eq_true rfl) (fun κ C Z => ?_)
  refine z_aload C 1 0 rfl dX9_init_0 rfl ?_
  refine z_obj C 4 dX9_init_1 obX9_3 (by decide) (by decide) (Nat.le_of_ble_eq_true rfl) rfl ?_
  refine z_aload C 5 0 rfl dX9_init_4 rfl ?_
  refine z_iconst C 6 (5) (by decide) dX9_init_5 rfl ?_
  refine z_putI C 9 dX9_init_6 flX9_9 kt_7 (by decide) rfl rfl ?_
  refine z_aload C 10 0 rfl dX9_init_9 rfl ?_
  refine z_bipush C 12 (20) (by decide) dX9_init_10 rfl ?_
  refine z_putI C 15 dX9_init_12 flX9_15 kt_7 (by decide) rfl rfl ?_
  refine z_aload C 16 0 rfl dX9_init_15 rfl ?_
  refine z_iconst C 17 (0) (by decide) dX9_init_16 rfl ?_
  refine z_putI C 20 dX9_init_17 flX9_18 kt_7 (by decide) rfl rfl ?_
  refine z_aload C 21 0 rfl dX9_init_20 rfl ?_
  refine z_iconst C 22 (0) (by decide) dX9_init_21 rfl ?_
  refine z_putI C 25 dX9_init_22 flX9_21 kt_7 (by decide) rfl rfl ?_
  refine z_aload C 26 0 rfl dX9_init_25 rfl ?_
  refine z_bipush C 28 (16) (by decide) dX9_init_26 rfl ?_
  refine z_newaL C 30 dX9_init_28 ac_long kt_8 (by decide) (by decide) (by decide) (Nat.le_of_ble_eq_true rfl) (Nat.le_of_ble_eq_true rfl) rfl ?_
  refine z_putR C 33 [(7, 5), (7, 6), (7, 7), (7, 8), (7, 9), (7, 10), (0, 5), (0, 6), (0, 7), (0, 8), (0, 9), (0, 10), (0, 11), (0, 12), (0, 13), (0, 14), (0, 15)] (Or.inr ⟨_, rfl⟩) rf_7_4 rfl dX9_init_30 flX9_24 kt_7 (by decide) rfl rfl ?_
  refine z_aload C 34 0 rfl dX9_init_33 rfl ?_
  refine z_bipush C 36 (16) (by decide) dX9_init_34 rfl ?_
  refine z_newaI C 38 dX9_init_36 ac_int kt_9 (by decide) (by decide) (by decide) (Nat.le_of_ble_eq_true rfl) (Nat.le_of_ble_eq_true rfl) rfl ?_
  refine z_putR C 41 [(7, 6), (7, 7), (7, 8), (7, 9), (7, 10), (0, 5), (0, 6), (0, 7), (0, 8), (0, 9), (0, 10), (0, 11), (0, 12), (0, 13), (0, 14), (0, 15)] (Or.inr ⟨_, rfl⟩) rf_7_5 rfl dX9_init_38 flX9_28 kt_7 (by decide) rfl rfl ?_
  refine z_aload C 42 0 rfl dX9_init_41 rfl ?_
  refine z_bipush C 44 (16) (by decide) dX9_init_42 rfl ?_
  refine z_newaI C 46 dX9_init_44 ac_int kt_10 (by decide) (by decide) (by decide) (Nat.le_of_ble_eq_true rfl) (Nat.le_of_ble_eq_true rfl) rfl ?_
  refine z_putR C 49 [(7, 7), (7, 8), (7, 9), (7, 10), (0, 5), (0, 6), (0, 7), (0, 8), (0, 9), (0, 10), (0, 11), (0, 12), (0, 13), (0, 14), (0, 15)] (Or.inr ⟨_, rfl⟩) rf_7_6 rfl dX9_init_46 flX9_32 kt_7 (by decide) rfl rfl ?_
  refine z_aload C 50 0 rfl dX9_init_49 rfl ?_
  refine z_bipush C 52 (16) (by decide) dX9_init_50 rfl ?_
  refine z_bipush C 54 (8) (by decide) dX9_init_52 rfl ?_
  refine z_mna C 58 20 192 dX9_init_54 clX9_35 ac_int kt_11 (fun j hj => (kq_11 j hj).1) (fun j hj => rq_11 j hj) (by decide) (by decide) (by decide) (by decide) (by decide) (by decide) (by decide) (Nat.le_of_ble_eq_true rfl) (Nat.le_of_ble_eq_true rfl) rfl rfl rfl ?_
  refine z_putR C 61 [(7, 8), (7, 9), (7, 10), (0, 5), (0, 6), (0, 7), (0, 8), (0, 9), (0, 10), (0, 11), (0, 12), (0, 13), (0, 14), (0, 15)] (Or.inr ⟨_, rfl⟩) rf_7_7 rfl dX9_init_58 flX9_37 kt_7 (by decide) rfl rfl ?_
  refine z_aload C 62 0 rfl dX9_init_61 rfl ?_
  refine z_bipush C 64 (16) (by decide) dX9_init_62 rfl ?_
  refine z_newaI C 66 dX9_init_64 ac_int kt_28 (by decide) (by decide) (by decide) (Nat.le_of_ble_eq_true rfl) (Nat.le_of_ble_eq_true rfl) rfl ?_
  refine z_putR C 69 [(7, 9), (7, 10), (0, 5), (0, 6), (0, 7), (0, 8), (0, 9), (0, 10), (0, 11), (0, 12), (0, 13), (0, 14), (0, 15)] (Or.inr ⟨_, rfl⟩) rf_7_8 rfl dX9_init_66 flX9_40 kt_7 (by decide) rfl rfl ?_
  refine z_aload C 70 0 rfl dX9_init_69 rfl ?_
  refine z_iconst C 71 (4) (by decide) dX9_init_70 rfl ?_
  refine z_newaI C 73 dX9_init_71 ac_int kt_29 (by decide) (by decide) (by decide) (Nat.le_of_ble_eq_true rfl) (Nat.le_of_ble_eq_true rfl) rfl ?_
  refine z_putR C 76 [(7, 10), (0, 5), (0, 6), (0, 7), (0, 8), (0, 9), (0, 10), (0, 11), (0, 12), (0, 13), (0, 14), (0, 15)] (Or.inr ⟨_, rfl⟩) rf_7_9 rfl dX9_init_73 flX9_43 kt_7 (by decide) rfl rfl ?_
  refine z_aload C 77 0 rfl dX9_init_76 rfl ?_
  refine z_iconst C 78 (4) (by decide) dX9_init_77 rfl ?_
  refine z_newaI C 80 dX9_init_78 ac_int kt_30 (by decide) (by decide) (by decide) (Nat.le_of_ble_eq_true rfl) (Nat.le_of_ble_eq_true rfl) rfl ?_
  refine z_putR C 83 [(0, 5), (0, 6), (0, 7), (0, 8), (0, 9), (0, 10), (0, 11), (0, 12), (0, 13), (0, 14), (0, 15)] (Or.inr ⟨_, rfl⟩) rf_7_10 rfl dX9_init_80 flX9_46 kt_7 (by decide) rfl rfl ?_
  exact Z _ _ dX9_init_83
def hz_31 (h : CH) : CH := sI (sI (sI (sI (h) 31 0 (5)) 31 1 (20)) 31 2 (0)) 31 3 (0)
set_option maxRecDepth 20000 in
theorem mz_31 (h : CH) : MZ yX9_init cX9_init 1 32 55 [(31, 4), (31, 5), (31, 6), (31, 7), (31, 8), (31, 9), (31, 10), (0, 6), (0, 7), (0, 8), (0, 9), (0, 10), (0, 11), (0, 12), (0, 13), (0, 14), (0, 15)] [(0, 6), (0, 7), (0, 8), (0, 9), (0, 10), (0, 11), (0, 12), (0, 13), (0, 14), (0, 15)] 1 40 23 216 (fun sz => [.ref (sz + 31)]) h (hz_31 h) := by
  refine mz_of RX9 (by decide +kernel) rfl rfl (fun sz => Nat.le_of_ble_eq_true rfl) (fun κ C Z => ?_)
  refine z_aload C 1 0 rfl dX9_init_0 rfl ?_
  refine z_obj C 4 dX9_init_1 obX9_3 (by decide) (by decide) (Nat.le_of_ble_eq_true rfl) rfl ?_
  refine z_aload C 5 0 rfl dX9_init_4 rfl ?_
  refine z_iconst C 6 (5) (by decide) dX9_init_5 rfl ?_
  refine z_putI C 9 dX9_init_6 flX9_9 kt_31 (by decide) rfl rfl ?_
  refine z_aload C 10 0 rfl dX9_init_9 rfl ?_
  refine z_bipush C 12 (20) (by decide) dX9_init_10 rfl ?_
  refine z_putI C 15 dX9_init_12 flX9_15 kt_31 (by decide) rfl rfl ?_
  refine z_aload C 16 0 rfl dX9_init_15 rfl ?_
  refine z_iconst C 17 (0) (by decide) dX9_init_16 rfl ?_
  refine z_putI C 20 dX9_init_17 flX9_18 kt_31 (by decide) rfl rfl ?_
  refine z_aload C 21 0 rfl dX9_init_20 rfl ?_
  refine z_iconst C 22 (0) (by decide) dX9_init_21 rfl ?_
  refine z_putI C 25 dX9_init_22 flX9_21 kt_31 (by decide) rfl rfl ?_
  refine z_aload C 26 0 rfl dX9_init_25 rfl ?_
  refine z_bipush C 28 (16) (by decide) dX9_init_26 rfl ?_
  refine z_newaL C 30 dX9_init_28 ac_long kt_32 (by decide) (by decide) (by decide) (Nat.le_of_ble_eq_true rfl) (Nat.le_of_ble_eq_true rfl) rfl ?_
  refine z_putR C 33 [(31, 5), (31, 6), (31, 7), (31, 8), (31, 9), (31, 10), (0, 6), (0, 7), (0, 8), (0, 9), (0, 10), (0, 11), (0, 12), (0, 13), (0, 14), (0, 15)] (Or.inr ⟨_, rfl⟩) rf_31_4 rfl dX9_init_30 flX9_24 kt_31 (by decide) rfl rfl ?_
  refine z_aload C 34 0 rfl dX9_init_33 rfl ?_
  refine z_bipush C 36 (16) (by decide) dX9_init_34 rfl ?_
  refine z_newaI C 38 dX9_init_36 ac_int kt_33 (by decide) (by decide) (by decide) (Nat.le_of_ble_eq_true rfl) (Nat.le_of_ble_eq_true rfl) rfl ?_
  refine z_putR C 41 [(31, 6), (31, 7), (31, 8), (31, 9), (31, 10), (0, 6), (0, 7), (0, 8), (0, 9), (0, 10), (0, 11), (0, 12), (0, 13), (0, 14), (0, 15)] (Or.inr ⟨_, rfl⟩) rf_31_5 rfl dX9_init_38 flX9_28 kt_31 (by decide) rfl rfl ?_
  refine z_aload C 42 0 rfl dX9_init_41 rfl ?_
  refine z_bipush C 44 (16) (by decide) dX9_init_42 rfl ?_
  refine z_newaI C 46 dX9_init_44 ac_int kt_34 (by decide) (by decide) (by decide) (Nat.le_of_ble_eq_true rfl) (Nat.le_of_ble_eq_true rfl) rfl ?_
  refine z_putR C 49 [(31, 7), (31, 8), (31, 9), (31, 10), (0, 6), (0, 7), (0, 8), (0, 9), (0, 10), (0, 11), (0, 12), (0, 13), (0, 14), (0, 15)] (Or.inr ⟨_, rfl⟩) rf_31_6 rfl dX9_init_46 flX9_32 kt_31 (by decide) rfl rfl ?_
  refine z_aload C 50 0 rfl dX9_init_49 rfl ?_
  refine z_bipush C 52 (16) (by decide) dX9_init_50 rfl ?_
  refine z_bipush C 54 (8) (by decide) dX9_init_52 rfl ?_
  refine z_mna C 58 20 192 dX9_init_54 clX9_35 ac_int kt_35 (fun j hj => (kq_35 j hj).1) (fun j hj => rq_35 j hj) (by decide) (by decide) (by decide) (by decide) (by decide) (by decide) (by decide) (Nat.le_of_ble_eq_true rfl) (Nat.le_of_ble_eq_true rfl) rfl rfl rfl ?_
  refine z_putR C 61 [(31, 8), (31, 9), (31, 10), (0, 6), (0, 7), (0, 8), (0, 9), (0, 10), (0, 11), (0, 12), (0, 13), (0, 14), (0, 15)] (Or.inr ⟨_, rfl⟩) rf_31_7 rfl dX9_init_58 flX9_37 kt_31 (by decide) rfl rfl ?_
  refine z_aload C 62 0 rfl dX9_init_61 rfl ?_
  refine z_bipush C 64 (16) (by decide) dX9_init_62 rfl ?_
  refine z_newaI C 66 dX9_init_64 ac_int kt_52 (by decide) (by decide) (by decide) (Nat.le_of_ble_eq_true rfl) (Nat.le_of_ble_eq_true rfl) rfl ?_
  refine z_putR C 69 [(31, 9), (31, 10), (0, 6), (0, 7), (0, 8), (0, 9), (0, 10), (0, 11), (0, 12), (0, 13), (0, 14), (0, 15)] (Or.inr ⟨_, rfl⟩) rf_31_8 rfl dX9_init_66 flX9_40 kt_31 (by decide) rfl rfl ?_
  refine z_aload C 70 0 rfl dX9_init_69 rfl ?_
  refine z_iconst C 71 (4) (by decide) dX9_init_70 rfl ?_
  refine z_newaI C 73 dX9_init_71 ac_int kt_53 (by decide) (by decide) (by decide) (Nat.le_of_ble_eq_true rfl) (Nat.le_of_ble_eq_true rfl) rfl ?_
  refine z_putR C 76 [(31, 10), (0, 6), (0, 7), (0, 8), (0, 9), (0, 10), (0, 11), (0, 12), (0, 13), (0, 14), (0, 15)] (Or.inr ⟨_, rfl⟩) rf_31_9 rfl dX9_init_73 flX9_43 kt_31 (by decide) rfl rfl ?_
  refine z_aload C 77 0 rfl dX9_init_76 rfl ?_
  refine z_iconst C 78 (4) (by decide) dX9_init_77 rfl ?_
  refine z_newaI C 80 dX9_init_78 ac_int kt_54 (by decide) (by decide) (by decide) (Nat.le_of_ble_eq_true rfl) (Nat.le_of_ble_eq_true rfl) rfl ?_
  refine z_putR C 83 [(0, 6), (0, 7), (0, 8), (0, 9), (0, 10), (0, 11), (0, 12), (0, 13), (0, 14), (0, 15)] (Or.inr ⟨_, rfl⟩) rf_31_10 rfl dX9_init_80 flX9_46 kt_31 (by decide) rfl rfl ?_
  exact Z _ _ dX9_init_83
def hz_55 (h : CH) : CH := sI (sI (sI (sI (sI (sI (h) 55 0 (0)) 55 1 (0)) 55 2 (0)) 55 3 (0)) 55 4 (0)) 55 5 (0)
set_option maxRecDepth 20000 in
theorem mz_55 (h : CH) : MZ yX5_init cX5_init 1 56 63 [(55, 6), (55, 7), (55, 8), (55, 9), (55, 10), (55, 11), (55, 12), (0, 7), (0, 8), (0, 9), (0, 10), (0, 11), (0, 12), (0, 13), (0, 14), (0, 15)] [(0, 7), (0, 8), (0, 9), (0, 10), (0, 11), (0, 12), (0, 13), (0, 14), (0, 15)] 1 40 7 1670 (fun sz => [.ref (sz + 55)]) h (hz_55 h) := by
  refine mz_of RX5 (by decide +kernel) rfl rfl (fun sz => Nat.le_of_ble_eq_true rfl) (fun κ C Z => ?_)
  refine z_aload C 1 0 rfl dX5_init_0 rfl ?_
  refine z_obj C 4 dX5_init_1 obX5_3 (by decide) (by decide) (Nat.le_of_ble_eq_true rfl) rfl ?_
  refine z_aload C 5 0 rfl dX5_init_4 rfl ?_
  refine z_iconst C 6 (0) (by decide) dX5_init_5 rfl ?_
  refine z_putI C 9 dX5_init_6 flX5_9 kt_55 (by decide) rfl rfl ?_
  refine z_aload C 10 0 rfl dX5_init_9 rfl ?_
  refine z_iconst C 11 (0) (by decide) dX5_init_10 rfl ?_
  refine z_putI C 14 dX5_init_11 flX5_15 kt_55 (by decide) rfl rfl ?_
  refine z_aload C 15 0 rfl dX5_init_14 rfl ?_
  refine z_iconst C 16 (0) (by decide) dX5_init_15 rfl ?_
  refine z_putZ C 19 (by decide) (by decide) dX5_init_16 flX5_18 kt_55 (by decide) rfl rfl ?_
  refine z_aload C 20 0 rfl dX5_init_19 rfl ?_
  refine z_iconst C 21 (0) (by decide) dX5_init_20 rfl ?_
  refine z_putI C 24 dX5_init_21 flX5_22 kt_55 (by decide) rfl rfl ?_
  refine z_aload C 25 0 rfl dX5_init_24 rfl ?_
  refine z_iconst C 26 (0) (by decide) dX5_init_25 rfl ?_
  refine z_putI C 29 dX5_init_26 flX5_25 kt_55 (by decide) rfl rfl ?_
  refine z_aload C 30 0 rfl dX5_init_29 rfl ?_
  refine z_iconst C 31 (0) (by decide) dX5_init_30 rfl ?_
  refine z_putI C 34 dX5_init_31 flX5_28 kt_55 (by decide) rfl rfl ?_
  refine z_aload C 35 0 rfl dX5_init_34 rfl ?_
  refine z_bipush C 37 (6) (by decide) dX5_init_35 rfl ?_
  refine z_newaL C 39 dX5_init_37 ac_long kt_56 (by decide) (by decide) (by decide) (Nat.le_of_ble_eq_true rfl) (Nat.le_of_ble_eq_true rfl) rfl ?_
  refine z_putR C 42 [(55, 7), (55, 8), (55, 9), (55, 10), (55, 11), (55, 12), (0, 7), (0, 8), (0, 9), (0, 10), (0, 11), (0, 12), (0, 13), (0, 14), (0, 15)] (Or.inr ⟨_, rfl⟩) rf_55_6 rfl dX5_init_39 flX5_31 kt_55 (by decide) rfl rfl ?_
  refine z_aload C 43 0 rfl dX5_init_42 rfl ?_
  refine z_bipush C 45 (6) (by decide) dX5_init_43 rfl ?_
  refine z_newaI C 47 dX5_init_45 ac_int kt_57 (by decide) (by decide) (by decide) (Nat.le_of_ble_eq_true rfl) (Nat.le_of_ble_eq_true rfl) rfl ?_
  refine z_putR C 50 [(55, 8), (55, 9), (55, 10), (55, 11), (55, 12), (0, 7), (0, 8), (0, 9), (0, 10), (0, 11), (0, 12), (0, 13), (0, 14), (0, 15)] (Or.inr ⟨_, rfl⟩) rf_55_7 rfl dX5_init_47 flX5_35 kt_55 (by decide) rfl rfl ?_
  refine z_aload C 51 0 rfl dX5_init_50 rfl ?_
  refine z_bipush C 53 (6) (by decide) dX5_init_51 rfl ?_
  refine z_newaI C 55 dX5_init_53 ac_int kt_58 (by decide) (by decide) (by decide) (Nat.le_of_ble_eq_true rfl) (Nat.le_of_ble_eq_true rfl) rfl ?_
  refine z_putR C 58 [(55, 9), (55, 10), (55, 11), (55, 12), (0, 7), (0, 8), (0, 9), (0, 10), (0, 11), (0, 12), (0, 13), (0, 14), (0, 15)] (Or.inr ⟨_, rfl⟩) rf_55_8 rfl dX5_init_55 flX5_39 kt_55 (by decide) rfl rfl ?_
  refine z_aload C 59 0 rfl dX5_init_58 rfl ?_
  refine z_sipush C 62 (800) (by decide) dX5_init_59 rfl ?_
  refine z_newaI C 64 dX5_init_62 ac_int kt_59 (by decide) (by decide) (by decide) (Nat.le_of_ble_eq_true rfl) (Nat.le_of_ble_eq_true rfl) rfl ?_
  refine z_putR C 67 [(55, 10), (55, 11), (55, 12), (0, 7), (0, 8), (0, 9), (0, 10), (0, 11), (0, 12), (0, 13), (0, 14), (0, 15)] (Or.inr ⟨_, rfl⟩) rf_55_9 rfl dX5_init_64 flX5_42 kt_55 (by decide) rfl rfl ?_
  refine z_aload C 68 0 rfl dX5_init_67 rfl ?_
  refine z_sipush C 71 (800) (by decide) dX5_init_68 rfl ?_
  refine z_newaI C 73 dX5_init_71 ac_int kt_60 (by decide) (by decide) (by decide) (Nat.le_of_ble_eq_true rfl) (Nat.le_of_ble_eq_true rfl) rfl ?_
  refine z_putR C 76 [(55, 11), (55, 12), (0, 7), (0, 8), (0, 9), (0, 10), (0, 11), (0, 12), (0, 13), (0, 14), (0, 15)] (Or.inr ⟨_, rfl⟩) rf_55_10 rfl dX5_init_73 flX5_45 kt_55 (by decide) rfl rfl ?_
  refine z_aload C 77 0 rfl dX5_init_76 rfl ?_
  refine z_bipush C 79 (12) (by decide) dX5_init_77 rfl ?_
  refine z_newaI C 81 dX5_init_79 ac_int kt_61 (by decide) (by decide) (by decide) (Nat.le_of_ble_eq_true rfl) (Nat.le_of_ble_eq_true rfl) rfl ?_
  refine z_putR C 84 [(55, 12), (0, 7), (0, 8), (0, 9), (0, 10), (0, 11), (0, 12), (0, 13), (0, 14), (0, 15)] (Or.inr ⟨_, rfl⟩) rf_55_11 rfl dX5_init_81 flX5_48 kt_55 (by decide) rfl rfl ?_
  refine z_aload C 85 0 rfl dX5_init_84 rfl ?_
  refine z_bipush C 87 (40) (by decide) dX5_init_85 rfl ?_
  refine z_newaI C 89 dX5_init_87 ac_int kt_62 (by decide) (by decide) (by decide) (Nat.le_of_ble_eq_true rfl) (Nat.le_of_ble_eq_true rfl) rfl ?_
  refine z_putR C 92 [(0, 7), (0, 8), (0, 9), (0, 10), (0, 11), (0, 12), (0, 13), (0, 14), (0, 15)] (Or.inr ⟨_, rfl⟩) rf_55_12 rfl dX5_init_89 flX5_51 kt_55 (by decide) rfl rfl ?_
  exact Z _ _ dX5_init_92
def hz_63 (h : CH) : CH := sI (sI (sI (sI (sI (sI (h) 63 0 (0)) 63 1 (0)) 63 2 (0)) 63 3 (0)) 63 4 (0)) 63 5 (0)
set_option maxRecDepth 20000 in
theorem mz_63 (h : CH) : MZ yX5_init cX5_init 1 64 71 [(63, 6), (63, 7), (63, 8), (63, 9), (63, 10), (63, 11), (63, 12), (0, 8), (0, 9), (0, 10), (0, 11), (0, 12), (0, 13), (0, 14), (0, 15)] [(0, 8), (0, 9), (0, 10), (0, 11), (0, 12), (0, 13), (0, 14), (0, 15)] 1 40 7 1670 (fun sz => [.ref (sz + 63)]) h (hz_63 h) := by
  refine mz_of RX5 (by decide +kernel) rfl rfl (fun sz => Nat.le_of_ble_eq_true rfl) (fun κ C Z => ?_)
  refine z_aload C 1 0 rfl dX5_init_0 rfl ?_
  refine z_obj C 4 dX5_init_1 obX5_3 (by decide) (by decide) (Nat.le_of_ble_eq_true rfl) rfl ?_
  refine z_aload C 5 0 rfl dX5_init_4 rfl ?_
  refine z_iconst C 6 (0) (by decide) dX5_init_5 rfl ?_
  refine z_putI C 9 dX5_init_6 flX5_9 kt_63 (by decide) rfl rfl ?_
  refine z_aload C 10 0 rfl dX5_init_9 rfl ?_
  refine z_iconst C 11 (0) (by decide) dX5_init_10 rfl ?_
  refine z_putI C 14 dX5_init_11 flX5_15 kt_63 (by decide) rfl rfl ?_
  refine z_aload C 15 0 rfl dX5_init_14 rfl ?_
  refine z_iconst C 16 (0) (by decide) dX5_init_15 rfl ?_
  refine z_putZ C 19 (by decide) (by decide) dX5_init_16 flX5_18 kt_63 (by decide) rfl rfl ?_
  refine z_aload C 20 0 rfl dX5_init_19 rfl ?_
  refine z_iconst C 21 (0) (by decide) dX5_init_20 rfl ?_
  refine z_putI C 24 dX5_init_21 flX5_22 kt_63 (by decide) rfl rfl ?_
  refine z_aload C 25 0 rfl dX5_init_24 rfl ?_
  refine z_iconst C 26 (0) (by decide) dX5_init_25 rfl ?_
  refine z_putI C 29 dX5_init_26 flX5_25 kt_63 (by decide) rfl rfl ?_
  refine z_aload C 30 0 rfl dX5_init_29 rfl ?_
  refine z_iconst C 31 (0) (by decide) dX5_init_30 rfl ?_
  refine z_putI C 34 dX5_init_31 flX5_28 kt_63 (by decide) rfl rfl ?_
  refine z_aload C 35 0 rfl dX5_init_34 rfl ?_
  refine z_bipush C 37 (6) (by decide) dX5_init_35 rfl ?_
  refine z_newaL C 39 dX5_init_37 ac_long kt_64 (by decide) (by decide) (by decide) (Nat.le_of_ble_eq_true rfl) (Nat.le_of_ble_eq_true rfl) rfl ?_
  refine z_putR C 42 [(63, 7), (63, 8), (63, 9), (63, 10), (63, 11), (63, 12), (0, 8), (0, 9), (0, 10), (0, 11), (0, 12), (0, 13), (0, 14), (0, 15)] (Or.inr ⟨_, rfl⟩) rf_63_6 rfl dX5_init_39 flX5_31 kt_63 (by decide) rfl rfl ?_
  refine z_aload C 43 0 rfl dX5_init_42 rfl ?_
  refine z_bipush C 45 (6) (by decide) dX5_init_43 rfl ?_
  refine z_newaI C 47 dX5_init_45 ac_int kt_65 (by decide) (by decide) (by decide) (Nat.le_of_ble_eq_true rfl) (Nat.le_of_ble_eq_true rfl) rfl ?_
  refine z_putR C 50 [(63, 8), (63, 9), (63, 10), (63, 11), (63, 12), (0, 8), (0, 9), (0, 10), (0, 11), (0, 12), (0, 13), (0, 14), (0, 15)] (Or.inr ⟨_, rfl⟩) rf_63_7 rfl dX5_init_47 flX5_35 kt_63 (by decide) rfl rfl ?_
  refine z_aload C 51 0 rfl dX5_init_50 rfl ?_
  refine z_bipush C 53 (6) (by decide) dX5_init_51 rfl ?_
  refine z_newaI C 55 dX5_init_53 ac_int kt_66 (by decide) (by decide) (by decide) (Nat.le_of_ble_eq_true rfl) (Nat.le_of_ble_eq_true rfl) rfl ?_
  refine z_putR C 58 [(63, 9), (63, 10), (63, 11), (63, 12), (0, 8), (0, 9), (0, 10), (0, 11), (0, 12), (0, 13), (0, 14), (0, 15)] (Or.inr ⟨_, rfl⟩) rf_63_8 rfl dX5_init_55 flX5_39 kt_63 (by decide) rfl rfl ?_
  refine z_aload C 59 0 rfl dX5_init_58 rfl ?_
  refine z_sipush C 62 (800) (by decide) dX5_init_59 rfl ?_
  refine z_newaI C 64 dX5_init_62 ac_int kt_67 (by decide) (by decide) (by decide) (Nat.le_of_ble_eq_true rfl) (Nat.le_of_ble_eq_true rfl) rfl ?_
  refine z_putR C 67 [(63, 10), (63, 11), (63, 12), (0, 8), (0, 9), (0, 10), (0, 11), (0, 12), (0, 13), (0, 14), (0, 15)] (Or.inr ⟨_, rfl⟩) rf_63_9 rfl dX5_init_64 flX5_42 kt_63 (by decide) rfl rfl ?_
  refine z_aload C 68 0 rfl dX5_init_67 rfl ?_
  refine z_sipush C 71 (800) (by decide) dX5_init_68 rfl ?_
  refine z_newaI C 73 dX5_init_71 ac_int kt_68 (by decide) (by decide) (by decide) (Nat.le_of_ble_eq_true rfl) (Nat.le_of_ble_eq_true rfl) rfl ?_
  refine z_putR C 76 [(63, 11), (63, 12), (0, 8), (0, 9), (0, 10), (0, 11), (0, 12), (0, 13), (0, 14), (0, 15)] (Or.inr ⟨_, rfl⟩) rf_63_10 rfl dX5_init_73 flX5_45 kt_63 (by decide) rfl rfl ?_
  refine z_aload C 77 0 rfl dX5_init_76 rfl ?_
  refine z_bipush C 79 (12) (by decide) dX5_init_77 rfl ?_
  refine z_newaI C 81 dX5_init_79 ac_int kt_69 (by decide) (by decide) (by decide) (Nat.le_of_ble_eq_true rfl) (Nat.le_of_ble_eq_true rfl) rfl ?_
  refine z_putR C 84 [(63, 12), (0, 8), (0, 9), (0, 10), (0, 11), (0, 12), (0, 13), (0, 14), (0, 15)] (Or.inr ⟨_, rfl⟩) rf_63_11 rfl dX5_init_81 flX5_48 kt_63 (by decide) rfl rfl ?_
  refine z_aload C 85 0 rfl dX5_init_84 rfl ?_
  refine z_bipush C 87 (40) (by decide) dX5_init_85 rfl ?_
  refine z_newaI C 89 dX5_init_87 ac_int kt_70 (by decide) (by decide) (by decide) (Nat.le_of_ble_eq_true rfl) (Nat.le_of_ble_eq_true rfl) rfl ?_
  refine z_putR C 92 [(0, 8), (0, 9), (0, 10), (0, 11), (0, 12), (0, 13), (0, 14), (0, 15)] (Or.inr ⟨_, rfl⟩) rf_63_12 rfl dX5_init_89 flX5_51 kt_63 (by decide) rfl rfl ?_
  exact Z _ _ dX5_init_92
def hz_71 (h : CH) : CH := sI (sI (sI (h) 71 0 (0)) 71 1 (0)) 71 2 (0)
set_option maxRecDepth 20000 in
theorem mz_71 (h : CH) : MZ yX2_init cX2_init 1 72 78 [(71, 3), (71, 4), (71, 5), (71, 6), (71, 7), (71, 8), (0, 9), (0, 10), (0, 11), (0, 12), (0, 13), (0, 14), (0, 15)] [(0, 9), (0, 10), (0, 11), (0, 12), (0, 13), (0, 14), (0, 15)] 1 40 6 240 (fun sz => [.ref (sz + 71)]) h (hz_71 h) := by
  refine mz_of RX2 (by decide +kernel) rfl rfl (fun sz => Nat.le_of_ble_eq_true rfl) (fun κ C Z => ?_)
  refine z_aload C 1 0 rfl dX2_init_0 rfl ?_
  refine z_obj C 4 dX2_init_1 obX2_3 (by decide) (by decide) (Nat.le_of_ble_eq_true rfl) rfl ?_
  refine z_aload C 5 0 rfl dX2_init_4 rfl ?_
  refine z_iconst C 6 (0) (by decide) dX2_init_5 rfl ?_
  refine z_putI C 9 dX2_init_6 flX2_9 kt_71 (by decide) rfl rfl ?_
  refine z_aload C 10 0 rfl dX2_init_9 rfl ?_
  refine z_iconst C 11 (0) (by decide) dX2_init_10 rfl ?_
  refine z_putI C 14 dX2_init_11 flX2_15 kt_71 (by decide) rfl rfl ?_
  refine z_aload C 15 0 rfl dX2_init_14 rfl ?_
  refine z_iconst C 16 (0) (by decide) dX2_init_15 rfl ?_
  refine z_putZ C 19 (by decide) (by decide) dX2_init_16 flX2_18 kt_71 (by decide) rfl rfl ?_
  refine z_aload C 20 0 rfl dX2_init_19 rfl ?_
  refine z_bipush C 22 (40) (by decide) dX2_init_20 rfl ?_
  refine z_newaI C 24 dX2_init_22 ac_int kt_72 (by decide) (by decide) (by decide) (Nat.le_of_ble_eq_true rfl) (Nat.le_of_ble_eq_true rfl) rfl ?_
  refine z_putR C 27 [(71, 4), (71, 5), (71, 6), (71, 7), (71, 8), (0, 9), (0, 10), (0, 11), (0, 12), (0, 13), (0, 14), (0, 15)] (Or.inr ⟨_, rfl⟩) rf_71_3 rfl dX2_init_24 flX2_22 kt_71 (by decide) rfl rfl ?_
  refine z_aload C 28 0 rfl dX2_init_27 rfl ?_
  refine z_bipush C 30 (40) (by decide) dX2_init_28 rfl ?_
  refine z_newaI C 32 dX2_init_30 ac_int kt_73 (by decide) (by decide) (by decide) (Nat.le_of_ble_eq_true rfl) (Nat.le_of_ble_eq_true rfl) rfl ?_
  refine z_putR C 35 [(71, 5), (71, 6), (71, 7), (71, 8), (0, 9), (0, 10), (0, 11), (0, 12), (0, 13), (0, 14), (0, 15)] (Or.inr ⟨_, rfl⟩) rf_71_4 rfl dX2_init_32 flX2_26 kt_71 (by decide) rfl rfl ?_
  refine z_aload C 36 0 rfl dX2_init_35 rfl ?_
  refine z_bipush C 38 (40) (by decide) dX2_init_36 rfl ?_
  refine z_newaI C 40 dX2_init_38 ac_int kt_74 (by decide) (by decide) (by decide) (Nat.le_of_ble_eq_true rfl) (Nat.le_of_ble_eq_true rfl) rfl ?_
  refine z_putR C 43 [(71, 6), (71, 7), (71, 8), (0, 9), (0, 10), (0, 11), (0, 12), (0, 13), (0, 14), (0, 15)] (Or.inr ⟨_, rfl⟩) rf_71_5 rfl dX2_init_40 flX2_29 kt_71 (by decide) rfl rfl ?_
  refine z_aload C 44 0 rfl dX2_init_43 rfl ?_
  refine z_bipush C 46 (40) (by decide) dX2_init_44 rfl ?_
  refine z_newaI C 48 dX2_init_46 ac_int kt_75 (by decide) (by decide) (by decide) (Nat.le_of_ble_eq_true rfl) (Nat.le_of_ble_eq_true rfl) rfl ?_
  refine z_putR C 51 [(71, 7), (71, 8), (0, 9), (0, 10), (0, 11), (0, 12), (0, 13), (0, 14), (0, 15)] (Or.inr ⟨_, rfl⟩) rf_71_6 rfl dX2_init_48 flX2_32 kt_71 (by decide) rfl rfl ?_
  refine z_aload C 52 0 rfl dX2_init_51 rfl ?_
  refine z_bipush C 54 (40) (by decide) dX2_init_52 rfl ?_
  refine z_newaI C 56 dX2_init_54 ac_int kt_76 (by decide) (by decide) (by decide) (Nat.le_of_ble_eq_true rfl) (Nat.le_of_ble_eq_true rfl) rfl ?_
  refine z_putR C 59 [(71, 8), (0, 9), (0, 10), (0, 11), (0, 12), (0, 13), (0, 14), (0, 15)] (Or.inr ⟨_, rfl⟩) rf_71_7 rfl dX2_init_56 flX2_35 kt_71 (by decide) rfl rfl ?_
  refine z_aload C 60 0 rfl dX2_init_59 rfl ?_
  refine z_bipush C 62 (40) (by decide) dX2_init_60 rfl ?_
  refine z_newaI C 64 dX2_init_62 ac_int kt_77 (by decide) (by decide) (by decide) (Nat.le_of_ble_eq_true rfl) (Nat.le_of_ble_eq_true rfl) rfl ?_
  refine z_putR C 67 [(0, 9), (0, 10), (0, 11), (0, 12), (0, 13), (0, 14), (0, 15)] (Or.inr ⟨_, rfl⟩) rf_71_8 rfl dX2_init_64 flX2_38 kt_71 (by decide) rfl rfl ?_
  exact Z _ _ dX2_init_67
def hz_79 (h : CH) : CH := h
set_option maxRecDepth 20000 in
theorem mz_79 (h : CH) : MZ yX0_init cX0_init 3 80 81 [(79, 0), (79, 1), (79, 2), (78, 0), (78, 1), (78, 2), (0, 11), (0, 12), (0, 13), (0, 14), (0, 15)] [(78, 0), (78, 1), (78, 2), (0, 11), (0, 12), (0, 13), (0, 14), (0, 15)] 1 40 1 8 (fun sz => [.ref (sz + 79), .ref (sz + 7), .ref (sz + 55)]) h (hz_79 h) := by
  refine mz_of RX0 (by decide +kernel) rfl rfl (fun sz => Nat.le_of_ble_eq_true rfl) (fun κ C Z => ?_)
  refine z_aload C 1 0 rfl dX0_init_0 rfl ?_
  refine z_obj C 4 dX0_init_1 obX0_3 (by decide) (by decide) (Nat.le_of_ble_eq_true rfl) rfl ?_
  refine z_aload C 5 0 rfl dX0_init_4 rfl ?_
  refine z_bipush C 7 (8) (by decide) dX0_init_5 rfl ?_
  refine z_newaI C 9 dX0_init_7 ac_int kt_80 (by decide) (by decide) (by decide) (Nat.le_of_ble_eq_true rfl) (Nat.le_of_ble_eq_true rfl) rfl ?_
  refine z_putR C 12 [(79, 0), (79, 1), (78, 0), (78, 1), (78, 2), (0, 11), (0, 12), (0, 13), (0, 14), (0, 15)] (Or.inr ⟨_, rfl⟩) rf_79_2 rfl dX0_init_9 flX0_9 kt_79 (by decide) rfl rfl ?_
  refine z_aload C 13 0 rfl dX0_init_12 rfl ?_
  refine z_aload C 14 1 rfl dX0_init_13 rfl ?_
  refine z_putR C 17 [(79, 1), (78, 0), (78, 1), (78, 2), (0, 11), (0, 12), (0, 13), (0, 14), (0, 15)] (Or.inl ⟨_, rfl⟩) rf_79_0 rfl dX0_init_14 flX0_15 kt_79 (by decide) rfl rfl ?_
  refine z_aload C 18 0 rfl dX0_init_17 rfl ?_
  refine z_aload C 19 2 rfl dX0_init_18 rfl ?_
  refine z_putR C 22 [(78, 0), (78, 1), (78, 2), (0, 11), (0, 12), (0, 13), (0, 14), (0, 15)] (Or.inl ⟨_, rfl⟩) rf_79_1 rfl dX0_init_19 flX0_19 kt_79 (by decide) rfl rfl ?_
  exact Z _ _ dX0_init_22
def hz_81 (h : CH) : CH := sI (sI (h) 81 5 (0)) 81 6 (0)
set_option maxRecDepth 20000 in
theorem mz_81 (h : CH) : MZ yX1_init cX1_init 3 82 117 [(81, 0), (81, 1), (81, 2), (81, 3), (81, 4), (78, 0), (78, 1), (78, 2), (0, 12), (0, 13), (0, 14), (0, 15)] [(78, 0), (78, 1), (78, 2), (0, 12), (0, 13), (0, 14), (0, 15)] 1 40 35 296 (fun sz => [.ref (sz + 81), .ref (sz + 7), .ref (sz + 55)]) h (hz_81 h) := by
  refine mz_of RX1 (by decide +kernel) rfl rfl (fun sz => Nat.le_of_ble_eq_true rfl) (fun κ C Z => ?_)
  refine z_aload C 1 0 rfl dX1_init_0 rfl ?_
  refine z_obj C 4 dX1_init_1 obX1_3 (by decide) (by decide) (Nat.le_of_ble_eq_true rfl) rfl ?_
  refine z_aload C 5 0 rfl dX1_init_4 rfl ?_
  refine z_bipush C 7 (16) (by decide) dX1_init_5 rfl ?_
  refine z_bipush C 9 (8) (by decide) dX1_init_7 rfl ?_
  refine z_mna C 13 17 144 dX1_init_9 clX1_9 ac_int kt_82 (fun j hj => (kq_82 j hj).1) (fun j hj => rq_82 j hj) (by decide) (by decide) (by decide) (by decide) (by decide) (by decide) (by decide) (Nat.le_of_ble_eq_true rfl) (Nat.le_of_ble_eq_true rfl) rfl rfl rfl ?_
  refine z_putR C 16 [(81, 0), (81, 1), (81, 3), (81, 4), (78, 0), (78, 1), (78, 2), (0, 12), (0, 13), (0, 14), (0, 15)] (Or.inr ⟨_, rfl⟩) rf_81_2 rfl dX1_init_13 flX1_11 kt_81 (by decide) rfl rfl ?_
  refine z_aload C 17 0 rfl dX1_init_16 rfl ?_
  refine z_bipush C 19 (16) (by decide) dX1_init_17 rfl ?_
  refine z_bipush C 21 (8) (by decide) dX1_init_19 rfl ?_
  refine z_mna C 25 34 288 dX1_init_21 clX1_9 ac_int kt_99 (fun j hj => (kq_99 j hj).1) (fun j hj => rq_99 j hj) (by decide) (by decide) (by decide) (by decide) (by decide) (by decide) (by decide) (Nat.le_of_ble_eq_true rfl) (Nat.le_of_ble_eq_true rfl) rfl rfl rfl ?_
  refine z_putR C 28 [(81, 0), (81, 1), (81, 4), (78, 0), (78, 1), (78, 2), (0, 12), (0, 13), (0, 14), (0, 15)] (Or.inr ⟨_, rfl⟩) rf_81_3 rfl dX1_init_25 flX1_16 kt_81 (by decide) rfl rfl ?_
  refine z_aload C 29 0 rfl dX1_init_28 rfl ?_
  refine z_bipush C 31 (8) (by decide) dX1_init_29 rfl ?_
  refine z_newaI C 33 dX1_init_31 ac_int kt_116 (by decide) (by decide) (by decide) (Nat.le_of_ble_eq_true rfl) (Nat.le_of_ble_eq_true rfl) rfl ?_
  refine z_putR C 36 [(81, 0), (81, 1), (78, 0), (78, 1), (78, 2), (0, 12), (0, 13), (0, 14), (0, 15)] (Or.inr ⟨_, rfl⟩) rf_81_4 rfl dX1_init_33 flX1_19 kt_81 (by decide) rfl rfl ?_
  refine z_aload C 37 0 rfl dX1_init_36 rfl ?_
  refine z_iconst C 38 (0) (by decide) dX1_init_37 rfl ?_
  refine z_putI C 41 dX1_init_38 flX1_23 kt_81 (by decide) rfl rfl ?_
  refine z_aload C 42 0 rfl dX1_init_41 rfl ?_
  refine z_iconst C 43 (0) (by decide) dX1_init_42 rfl ?_
  refine z_putI C 46 dX1_init_43 flX1_27 kt_81 (by decide) rfl rfl ?_
  refine z_aload C 47 0 rfl dX1_init_46 rfl ?_
  refine z_aload C 48 1 rfl dX1_init_47 rfl ?_
  refine z_putR C 51 [(81, 1), (78, 0), (78, 1), (78, 2), (0, 12), (0, 13), (0, 14), (0, 15)] (Or.inl ⟨_, rfl⟩) rf_81_0 rfl dX1_init_48 flX1_30 kt_81 (by decide) rfl rfl ?_
  refine z_aload C 52 0 rfl dX1_init_51 rfl ?_
  refine z_aload C 53 2 rfl dX1_init_52 rfl ?_
  refine z_putR C 56 [(78, 0), (78, 1), (78, 2), (0, 12), (0, 13), (0, 14), (0, 15)] (Or.inl ⟨_, rfl⟩) rf_81_1 rfl dX1_init_53 flX1_34 kt_81 (by decide) rfl rfl ?_
  exact Z _ _ dX1_init_56
def hz_117 (h : CH) : CH := h
set_option maxRecDepth 20000 in
theorem mz_117 (h : CH) : MZ yX3_init cX3_init 3 118 121 [(117, 0), (117, 1), (117, 2), (117, 3), (117, 4), (78, 0), (78, 1), (78, 2), (0, 13), (0, 14), (0, 15)] [(78, 0), (78, 1), (78, 2), (0, 13), (0, 14), (0, 15)] 1 40 3 1606 (fun sz => [.ref (sz + 117), .ref (sz + 7), .ref (sz + 81)]) h (hz_117 h) := by
  refine mz_of RX3 (by decide +kernel) rfl rfl (fun sz => Nat.le_of_ble_eq_true rfl) (fun κ C Z => ?_)
  refine z_aload C 1 0 rfl dX3_init_0 rfl ?_
  refine z_obj C 4 dX3_init_1 obX3_3 (by decide) (by decide) (Nat.le_of_ble_eq_true rfl) rfl ?_
  refine z_aload C 5 0 rfl dX3_init_4 rfl ?_
  refine z_iconst C 6 (4) (by decide) dX3_init_5 rfl ?_
  refine z_newaI C 8 dX3_init_6 ac_int kt_118 (by decide) (by decide) (by decide) (Nat.le_of_ble_eq_true rfl) (Nat.le_of_ble_eq_true rfl) rfl ?_
  refine z_putR C 11 [(117, 0), (117, 1), (117, 3), (117, 4), (78, 0), (78, 1), (78, 2), (0, 13), (0, 14), (0, 15)] (Or.inr ⟨_, rfl⟩) rf_117_2 rfl dX3_init_8 flX3_9 kt_117 (by decide) rfl rfl ?_
  refine z_aload C 12 0 rfl dX3_init_11 rfl ?_
  refine z_sipush C 15 (801) (by decide) dX3_init_12 rfl ?_
  refine z_newaI C 17 dX3_init_15 ac_int kt_119 (by decide) (by decide) (by decide) (Nat.le_of_ble_eq_true rfl) (Nat.le_of_ble_eq_true rfl) rfl ?_
  refine z_putR C 20 [(117, 0), (117, 1), (117, 4), (78, 0), (78, 1), (78, 2), (0, 13), (0, 14), (0, 15)] (Or.inr ⟨_, rfl⟩) rf_117_3 rfl dX3_init_17 flX3_15 kt_117 (by decide) rfl rfl ?_
  refine z_aload C 21 0 rfl dX3_init_20 rfl ?_
  refine z_sipush C 24 (801) (by decide) dX3_init_21 rfl ?_
  refine z_newaI C 26 dX3_init_24 ac_int kt_120 (by decide) (by decide) (by decide) (Nat.le_of_ble_eq_true rfl) (Nat.le_of_ble_eq_true rfl) rfl ?_
  refine z_putR C 29 [(117, 0), (117, 1), (78, 0), (78, 1), (78, 2), (0, 13), (0, 14), (0, 15)] (Or.inr ⟨_, rfl⟩) rf_117_4 rfl dX3_init_26 flX3_18 kt_117 (by decide) rfl rfl ?_
  refine z_aload C 30 0 rfl dX3_init_29 rfl ?_
  refine z_aload C 31 1 rfl dX3_init_30 rfl ?_
  refine z_putR C 34 [(117, 1), (78, 0), (78, 1), (78, 2), (0, 13), (0, 14), (0, 15)] (Or.inl ⟨_, rfl⟩) rf_117_0 rfl dX3_init_31 flX3_21 kt_117 (by decide) rfl rfl ?_
  refine z_aload C 35 0 rfl dX3_init_34 rfl ?_
  refine z_aload C 36 2 rfl dX3_init_35 rfl ?_
  refine z_putR C 39 [(78, 0), (78, 1), (78, 2), (0, 13), (0, 14), (0, 15)] (Or.inl ⟨_, rfl⟩) rf_117_1 rfl dX3_init_36 flX3_25 kt_117 (by decide) rfl rfl ?_
  exact Z _ _ dX3_init_39
def hz_121 (h : CH) : CH := sI (sI (sI (sI (sI (h) 121 7 (0)) 121 8 (-1)) 121 9 (-1)) 121 10 (0)) 121 11 (0)
set_option maxRecDepth 20000 in
theorem mz_121 (h : CH) : MZ yX7_init cX7_init 4 122 126 [(121, 0), (121, 1), (121, 2), (121, 3), (121, 4), (121, 5), (121, 6), (78, 0), (78, 1), (78, 2), (0, 14), (0, 15)] [(78, 0), (78, 1), (78, 2), (0, 14), (0, 15)] 1 40 4 44 (fun sz => [.ref (sz + 121), .ref (sz + 7), .ref (sz + 71), .ref (sz + 79)]) h (hz_121 h) := by
  refine mz_of RX7 (by decide +kernel) rfl rfl (fun sz => Nat.le_of_ble_eq_true rfl) (fun κ C Z => ?_)
  refine z_aload C 1 0 rfl dX7_init_0 rfl ?_
  refine z_obj C 4 dX7_init_1 obX7_3 (by decide) (by decide) (Nat.le_of_ble_eq_true rfl) rfl ?_
  refine z_aload C 5 0 rfl dX7_init_4 rfl ?_
  refine z_bipush C 7 (8) (by decide) dX7_init_5 rfl ?_
  refine z_newaI C 9 dX7_init_7 ac_int kt_122 (by decide) (by decide) (by decide) (Nat.le_of_ble_eq_true rfl) (Nat.le_of_ble_eq_true rfl) rfl ?_
  refine z_putR C 12 [(121, 0), (121, 1), (121, 2), (121, 4), (121, 5), (121, 6), (78, 0), (78, 1), (78, 2), (0, 14), (0, 15)] (Or.inr ⟨_, rfl⟩) rf_121_3 rfl dX7_init_9 flX7_9 kt_121 (by decide) rfl rfl ?_
  refine z_aload C 13 0 rfl dX7_init_12 rfl ?_
  refine z_bipush C 15 (16) (by decide) dX7_init_13 rfl ?_
  refine z_newaI C 17 dX7_init_15 ac_int kt_123 (by decide) (by decide) (by decide) (Nat.le_of_ble_eq_true rfl) (Nat.le_of_ble_eq_true rfl) rfl ?_
  refine z_putR C 20 [(121, 0), (121, 1), (121, 2), (121, 5), (121, 6), (78, 0), (78, 1), (78, 2), (0, 14), (0, 15)] (Or.inr ⟨_, rfl⟩) rf_121_4 rfl dX7_init_17 flX7_15 kt_121 (by decide) rfl rfl ?_
  refine z_aload C 21 0 rfl dX7_init_20 rfl ?_
  refine z_bipush C 23 (16) (by decide) dX7_init_21 rfl ?_
  refine z_newaI C 25 dX7_init_23 ac_int kt_124 (by decide) (by decide) (by decide) (Nat.le_of_ble_eq_true rfl) (Nat.le_of_ble_eq_true rfl) rfl ?_
  refine z_putR C 28 [(121, 0), (121, 1), (121, 2), (121, 6), (78, 0), (78, 1), (78, 2), (0, 14), (0, 15)] (Or.inr ⟨_, rfl⟩) rf_121_5 rfl dX7_init_25 flX7_18 kt_121 (by decide) rfl rfl ?_
  refine z_aload C 29 0 rfl dX7_init_28 rfl ?_
  refine z_iconst C 30 (4) (by decide) dX7_init_29 rfl ?_
  refine z_newaI C 32 dX7_init_30 ac_int kt_125 (by decide) (by decide) (by decide) (Nat.le_of_ble_eq_true rfl) (Nat.le_of_ble_eq_true rfl) rfl ?_
  refine z_putR C 35 [(121, 0), (121, 1), (121, 2), (78, 0), (78, 1), (78, 2), (0, 14), (0, 15)] (Or.inr ⟨_, rfl⟩) rf_121_6 rfl dX7_init_32 flX7_21 kt_121 (by decide) rfl rfl ?_
  refine z_aload C 36 0 rfl dX7_init_35 rfl ?_
  refine z_iconst C 37 (0) (by decide) dX7_init_36 rfl ?_
  refine z_putI C 40 dX7_init_37 flX7_24 kt_121 (by decide) rfl rfl ?_
  refine z_aload C 41 0 rfl dX7_init_40 rfl ?_
  refine z_iconst C 42 (-1) (by decide) dX7_init_41 rfl ?_
  refine z_putI C 45 dX7_init_42 flX7_28 kt_121 (by decide) rfl rfl ?_
  refine z_aload C 46 0 rfl dX7_init_45 rfl ?_
  refine z_iconst C 47 (-1) (by decide) dX7_init_46 rfl ?_
  refine z_putI C 50 dX7_init_47 flX7_31 kt_121 (by decide) rfl rfl ?_
  refine z_aload C 51 0 rfl dX7_init_50 rfl ?_
  refine z_iconst C 52 (0) (by decide) dX7_init_51 rfl ?_
  refine z_putI C 55 dX7_init_52 flX7_34 kt_121 (by decide) rfl rfl ?_
  refine z_aload C 56 0 rfl dX7_init_55 rfl ?_
  refine z_iconst C 57 (0) (by decide) dX7_init_56 rfl ?_
  refine z_putI C 60 dX7_init_57 flX7_37 kt_121 (by decide) rfl rfl ?_
  refine z_aload C 61 0 rfl dX7_init_60 rfl ?_
  refine z_aload C 62 1 rfl dX7_init_61 rfl ?_
  refine z_putR C 65 [(121, 1), (121, 2), (78, 0), (78, 1), (78, 2), (0, 14), (0, 15)] (Or.inl ⟨_, rfl⟩) rf_121_0 rfl dX7_init_62 flX7_40 kt_121 (by decide) rfl rfl ?_
  refine z_aload C 66 0 rfl dX7_init_65 rfl ?_
  refine z_aload C 67 2 rfl dX7_init_66 rfl ?_
  refine z_putR C 70 [(121, 2), (78, 0), (78, 1), (78, 2), (0, 14), (0, 15)] (Or.inl ⟨_, rfl⟩) rf_121_1 rfl dX7_init_67 flX7_44 kt_121 (by decide) rfl rfl ?_
  refine z_aload C 71 0 rfl dX7_init_70 rfl ?_
  refine z_aload C 72 3 rfl dX7_init_71 rfl ?_
  refine z_putR C 75 [(78, 0), (78, 1), (78, 2), (0, 14), (0, 15)] (Or.inl ⟨_, rfl⟩) rf_121_2 rfl dX7_init_72 flX7_48 kt_121 (by decide) rfl rfl ?_
  exact Z _ _ dX7_init_75
def hz_126 (h : CH) : CH := sI (sI (h) 126 5 (0)) 126 6 (-1)
set_option maxRecDepth 20000 in
theorem mz_126 (h : CH) : MZ yX4_init cX4_init 3 127 130 [(126, 0), (126, 1), (126, 2), (126, 3), (126, 4), (78, 0), (78, 1), (78, 2), (0, 15)] [(78, 0), (78, 1), (78, 2), (0, 15)] 1 40 3 120 (fun sz => [.ref (sz + 126), .ref (sz + 7), .ref (sz + 71)]) h (hz_126 h) := by
  refine mz_of RX4 (by decide +kernel) rfl rfl (fun sz => Nat.le_of_ble_eq_true rfl) (fun κ C Z => ?_)
  refine z_aload C 1 0 rfl dX4_init_0 rfl ?_
  refine z_obj C 4 dX4_init_1 obX4_3 (by decide) (by decide) (Nat.le_of_ble_eq_true rfl) rfl ?_
  refine z_aload C 5 0 rfl dX4_init_4 rfl ?_
  refine z_bipush C 7 (40) (by decide) dX4_init_5 rfl ?_
  refine z_newaI C 9 dX4_init_7 ac_int kt_127 (by decide) (by decide) (by decide) (Nat.le_of_ble_eq_true rfl) (Nat.le_of_ble_eq_true rfl) rfl ?_
  refine z_putR C 12 [(126, 0), (126, 1), (126, 3), (126, 4), (78, 0), (78, 1), (78, 2), (0, 15)] (Or.inr ⟨_, rfl⟩) rf_126_2 rfl dX4_init_9 flX4_9 kt_126 (by decide) rfl rfl ?_
  refine z_aload C 13 0 rfl dX4_init_12 rfl ?_
  refine z_bipush C 15 (40) (by decide) dX4_init_13 rfl ?_
  refine z_newaI C 17 dX4_init_15 ac_int kt_128 (by decide) (by decide) (by decide) (Nat.le_of_ble_eq_true rfl) (Nat.le_of_ble_eq_true rfl) rfl ?_
  refine z_putR C 20 [(126, 0), (126, 1), (126, 4), (78, 0), (78, 1), (78, 2), (0, 15)] (Or.inr ⟨_, rfl⟩) rf_126_3 rfl dX4_init_17 flX4_15 kt_126 (by decide) rfl rfl ?_
  refine z_aload C 21 0 rfl dX4_init_20 rfl ?_
  refine z_bipush C 23 (40) (by decide) dX4_init_21 rfl ?_
  refine z_newaI C 25 dX4_init_23 ac_int kt_129 (by decide) (by decide) (by decide) (Nat.le_of_ble_eq_true rfl) (Nat.le_of_ble_eq_true rfl) rfl ?_
  refine z_putR C 28 [(126, 0), (126, 1), (78, 0), (78, 1), (78, 2), (0, 15)] (Or.inr ⟨_, rfl⟩) rf_126_4 rfl dX4_init_25 flX4_18 kt_126 (by decide) rfl rfl ?_
  refine z_aload C 29 0 rfl dX4_init_28 rfl ?_
  refine z_iconst C 30 (0) (by decide) dX4_init_29 rfl ?_
  refine z_putI C 33 dX4_init_30 flX4_21 kt_126 (by decide) rfl rfl ?_
  refine z_aload C 34 0 rfl dX4_init_33 rfl ?_
  refine z_iconst C 35 (-1) (by decide) dX4_init_34 rfl ?_
  refine z_putI C 38 dX4_init_35 flX4_25 kt_126 (by decide) rfl rfl ?_
  refine z_aload C 39 0 rfl dX4_init_38 rfl ?_
  refine z_aload C 40 1 rfl dX4_init_39 rfl ?_
  refine z_putR C 43 [(126, 1), (78, 0), (78, 1), (78, 2), (0, 15)] (Or.inl ⟨_, rfl⟩) rf_126_0 rfl dX4_init_40 flX4_28 kt_126 (by decide) rfl rfl ?_
  refine z_aload C 44 0 rfl dX4_init_43 rfl ?_
  refine z_aload C 45 2 rfl dX4_init_44 rfl ?_
  refine z_putR C 48 [(78, 0), (78, 1), (78, 2), (0, 15)] (Or.inl ⟨_, rfl⟩) rf_126_1 rfl dX4_init_45 flX4_32 kt_126 (by decide) rfl rfl ?_
  exact Z _ _ dX4_init_48
def hz_130 (h : CH) : CH := sI (sI (sI (h) 130 0 (0)) 130 1 (0)) 130 2 (0)
set_option maxRecDepth 20000 in
theorem mz_130 (h : CH) : MZ yX2_init cX2_init 1 131 137 [(130, 3), (130, 4), (130, 5), (130, 6), (130, 7), (130, 8), (78, 0), (78, 1), (78, 2)] [(78, 0), (78, 1), (78, 2)] 1 40 6 240 (fun sz => [.ref (sz + 130)]) h (hz_130 h) := by
  refine mz_of RX2 (by decide +kernel) rfl rfl (fun sz => Nat.le_of_ble_eq_true rfl) (fun κ C Z => ?_)
  refine z_aload C 1 0 rfl dX2_init_0 rfl ?_
  refine z_obj C 4 dX2_init_1 obX2_3 (by decide) (by decide) (Nat.le_of_ble_eq_true rfl) rfl ?_
  refine z_aload C 5 0 rfl dX2_init_4 rfl ?_
  refine z_iconst C 6 (0) (by decide) dX2_init_5 rfl ?_
  refine z_putI C 9 dX2_init_6 flX2_9 kt_130 (by decide) rfl rfl ?_
  refine z_aload C 10 0 rfl dX2_init_9 rfl ?_
  refine z_iconst C 11 (0) (by decide) dX2_init_10 rfl ?_
  refine z_putI C 14 dX2_init_11 flX2_15 kt_130 (by decide) rfl rfl ?_
  refine z_aload C 15 0 rfl dX2_init_14 rfl ?_
  refine z_iconst C 16 (0) (by decide) dX2_init_15 rfl ?_
  refine z_putZ C 19 (by decide) (by decide) dX2_init_16 flX2_18 kt_130 (by decide) rfl rfl ?_
  refine z_aload C 20 0 rfl dX2_init_19 rfl ?_
  refine z_bipush C 22 (40) (by decide) dX2_init_20 rfl ?_
  refine z_newaI C 24 dX2_init_22 ac_int kt_131 (by decide) (by decide) (by decide) (Nat.le_of_ble_eq_true rfl) (Nat.le_of_ble_eq_true rfl) rfl ?_
  refine z_putR C 27 [(130, 4), (130, 5), (130, 6), (130, 7), (130, 8), (78, 0), (78, 1), (78, 2)] (Or.inr ⟨_, rfl⟩) rf_130_3 rfl dX2_init_24 flX2_22 kt_130 (by decide) rfl rfl ?_
  refine z_aload C 28 0 rfl dX2_init_27 rfl ?_
  refine z_bipush C 30 (40) (by decide) dX2_init_28 rfl ?_
  refine z_newaI C 32 dX2_init_30 ac_int kt_132 (by decide) (by decide) (by decide) (Nat.le_of_ble_eq_true rfl) (Nat.le_of_ble_eq_true rfl) rfl ?_
  refine z_putR C 35 [(130, 5), (130, 6), (130, 7), (130, 8), (78, 0), (78, 1), (78, 2)] (Or.inr ⟨_, rfl⟩) rf_130_4 rfl dX2_init_32 flX2_26 kt_130 (by decide) rfl rfl ?_
  refine z_aload C 36 0 rfl dX2_init_35 rfl ?_
  refine z_bipush C 38 (40) (by decide) dX2_init_36 rfl ?_
  refine z_newaI C 40 dX2_init_38 ac_int kt_133 (by decide) (by decide) (by decide) (Nat.le_of_ble_eq_true rfl) (Nat.le_of_ble_eq_true rfl) rfl ?_
  refine z_putR C 43 [(130, 6), (130, 7), (130, 8), (78, 0), (78, 1), (78, 2)] (Or.inr ⟨_, rfl⟩) rf_130_5 rfl dX2_init_40 flX2_29 kt_130 (by decide) rfl rfl ?_
  refine z_aload C 44 0 rfl dX2_init_43 rfl ?_
  refine z_bipush C 46 (40) (by decide) dX2_init_44 rfl ?_
  refine z_newaI C 48 dX2_init_46 ac_int kt_134 (by decide) (by decide) (by decide) (Nat.le_of_ble_eq_true rfl) (Nat.le_of_ble_eq_true rfl) rfl ?_
  refine z_putR C 51 [(130, 7), (130, 8), (78, 0), (78, 1), (78, 2)] (Or.inr ⟨_, rfl⟩) rf_130_6 rfl dX2_init_48 flX2_32 kt_130 (by decide) rfl rfl ?_
  refine z_aload C 52 0 rfl dX2_init_51 rfl ?_
  refine z_bipush C 54 (40) (by decide) dX2_init_52 rfl ?_
  refine z_newaI C 56 dX2_init_54 ac_int kt_135 (by decide) (by decide) (by decide) (Nat.le_of_ble_eq_true rfl) (Nat.le_of_ble_eq_true rfl) rfl ?_
  refine z_putR C 59 [(130, 8), (78, 0), (78, 1), (78, 2)] (Or.inr ⟨_, rfl⟩) rf_130_7 rfl dX2_init_56 flX2_35 kt_130 (by decide) rfl rfl ?_
  refine z_aload C 60 0 rfl dX2_init_59 rfl ?_
  refine z_bipush C 62 (40) (by decide) dX2_init_60 rfl ?_
  refine z_newaI C 64 dX2_init_62 ac_int kt_136 (by decide) (by decide) (by decide) (Nat.le_of_ble_eq_true rfl) (Nat.le_of_ble_eq_true rfl) rfl ?_
  refine z_putR C 67 [(78, 0), (78, 1), (78, 2)] (Or.inr ⟨_, rfl⟩) rf_130_8 rfl dX2_init_64 flX2_38 kt_130 (by decide) rfl rfl ?_
  exact Z _ _ dX2_init_67
def hz_137 (h : CH) : CH := sI (sI (sI (h) 137 0 (0)) 137 1 (0)) 137 2 (0)
set_option maxRecDepth 20000 in
theorem mz_137 (h : CH) : MZ yX2_init cX2_init 1 138 144 [(137, 3), (137, 4), (137, 5), (137, 6), (137, 7), (137, 8), (78, 1), (78, 2)] [(78, 1), (78, 2)] 1 40 6 240 (fun sz => [.ref (sz + 137)]) h (hz_137 h) := by
  refine mz_of RX2 (by decide +kernel) rfl rfl (fun sz => Nat.le_of_ble_eq_true rfl) (fun κ C Z => ?_)
  refine z_aload C 1 0 rfl dX2_init_0 rfl ?_
  refine z_obj C 4 dX2_init_1 obX2_3 (by decide) (by decide) (Nat.le_of_ble_eq_true rfl) rfl ?_
  refine z_aload C 5 0 rfl dX2_init_4 rfl ?_
  refine z_iconst C 6 (0) (by decide) dX2_init_5 rfl ?_
  refine z_putI C 9 dX2_init_6 flX2_9 kt_137 (by decide) rfl rfl ?_
  refine z_aload C 10 0 rfl dX2_init_9 rfl ?_
  refine z_iconst C 11 (0) (by decide) dX2_init_10 rfl ?_
  refine z_putI C 14 dX2_init_11 flX2_15 kt_137 (by decide) rfl rfl ?_
  refine z_aload C 15 0 rfl dX2_init_14 rfl ?_
  refine z_iconst C 16 (0) (by decide) dX2_init_15 rfl ?_
  refine z_putZ C 19 (by decide) (by decide) dX2_init_16 flX2_18 kt_137 (by decide) rfl rfl ?_
  refine z_aload C 20 0 rfl dX2_init_19 rfl ?_
  refine z_bipush C 22 (40) (by decide) dX2_init_20 rfl ?_
  refine z_newaI C 24 dX2_init_22 ac_int kt_138 (by decide) (by decide) (by decide) (Nat.le_of_ble_eq_true rfl) (Nat.le_of_ble_eq_true rfl) rfl ?_
  refine z_putR C 27 [(137, 4), (137, 5), (137, 6), (137, 7), (137, 8), (78, 1), (78, 2)] (Or.inr ⟨_, rfl⟩) rf_137_3 rfl dX2_init_24 flX2_22 kt_137 (by decide) rfl rfl ?_
  refine z_aload C 28 0 rfl dX2_init_27 rfl ?_
  refine z_bipush C 30 (40) (by decide) dX2_init_28 rfl ?_
  refine z_newaI C 32 dX2_init_30 ac_int kt_139 (by decide) (by decide) (by decide) (Nat.le_of_ble_eq_true rfl) (Nat.le_of_ble_eq_true rfl) rfl ?_
  refine z_putR C 35 [(137, 5), (137, 6), (137, 7), (137, 8), (78, 1), (78, 2)] (Or.inr ⟨_, rfl⟩) rf_137_4 rfl dX2_init_32 flX2_26 kt_137 (by decide) rfl rfl ?_
  refine z_aload C 36 0 rfl dX2_init_35 rfl ?_
  refine z_bipush C 38 (40) (by decide) dX2_init_36 rfl ?_
  refine z_newaI C 40 dX2_init_38 ac_int kt_140 (by decide) (by decide) (by decide) (Nat.le_of_ble_eq_true rfl) (Nat.le_of_ble_eq_true rfl) rfl ?_
  refine z_putR C 43 [(137, 6), (137, 7), (137, 8), (78, 1), (78, 2)] (Or.inr ⟨_, rfl⟩) rf_137_5 rfl dX2_init_40 flX2_29 kt_137 (by decide) rfl rfl ?_
  refine z_aload C 44 0 rfl dX2_init_43 rfl ?_
  refine z_bipush C 46 (40) (by decide) dX2_init_44 rfl ?_
  refine z_newaI C 48 dX2_init_46 ac_int kt_141 (by decide) (by decide) (by decide) (Nat.le_of_ble_eq_true rfl) (Nat.le_of_ble_eq_true rfl) rfl ?_
  refine z_putR C 51 [(137, 7), (137, 8), (78, 1), (78, 2)] (Or.inr ⟨_, rfl⟩) rf_137_6 rfl dX2_init_48 flX2_32 kt_137 (by decide) rfl rfl ?_
  refine z_aload C 52 0 rfl dX2_init_51 rfl ?_
  refine z_bipush C 54 (40) (by decide) dX2_init_52 rfl ?_
  refine z_newaI C 56 dX2_init_54 ac_int kt_142 (by decide) (by decide) (by decide) (Nat.le_of_ble_eq_true rfl) (Nat.le_of_ble_eq_true rfl) rfl ?_
  refine z_putR C 59 [(137, 8), (78, 1), (78, 2)] (Or.inr ⟨_, rfl⟩) rf_137_7 rfl dX2_init_56 flX2_35 kt_137 (by decide) rfl rfl ?_
  refine z_aload C 60 0 rfl dX2_init_59 rfl ?_
  refine z_bipush C 62 (40) (by decide) dX2_init_60 rfl ?_
  refine z_newaI C 64 dX2_init_62 ac_int kt_143 (by decide) (by decide) (by decide) (Nat.le_of_ble_eq_true rfl) (Nat.le_of_ble_eq_true rfl) rfl ?_
  refine z_putR C 67 [(78, 1), (78, 2)] (Or.inr ⟨_, rfl⟩) rf_137_8 rfl dX2_init_64 flX2_38 kt_137 (by decide) rfl rfl ?_
  exact Z _ _ dX2_init_67
def hz_144 (h : CH) : CH := sI (sI (sI (h) 144 0 (0)) 144 1 (0)) 144 2 (0)
set_option maxRecDepth 20000 in
theorem mz_144 (h : CH) : MZ yX2_init cX2_init 1 145 151 [(144, 3), (144, 4), (144, 5), (144, 6), (144, 7), (144, 8), (78, 2)] [(78, 2)] 1 40 6 240 (fun sz => [.ref (sz + 144)]) h (hz_144 h) := by
  refine mz_of RX2 (by decide +kernel) rfl rfl (fun sz => Nat.le_of_ble_eq_true rfl) (fun κ C Z => ?_)
  refine z_aload C 1 0 rfl dX2_init_0 rfl ?_
  refine z_obj C 4 dX2_init_1 obX2_3 (by decide) (by decide) (Nat.le_of_ble_eq_true rfl) rfl ?_
  refine z_aload C 5 0 rfl dX2_init_4 rfl ?_
  refine z_iconst C 6 (0) (by decide) dX2_init_5 rfl ?_
  refine z_putI C 9 dX2_init_6 flX2_9 kt_144 (by decide) rfl rfl ?_
  refine z_aload C 10 0 rfl dX2_init_9 rfl ?_
  refine z_iconst C 11 (0) (by decide) dX2_init_10 rfl ?_
  refine z_putI C 14 dX2_init_11 flX2_15 kt_144 (by decide) rfl rfl ?_
  refine z_aload C 15 0 rfl dX2_init_14 rfl ?_
  refine z_iconst C 16 (0) (by decide) dX2_init_15 rfl ?_
  refine z_putZ C 19 (by decide) (by decide) dX2_init_16 flX2_18 kt_144 (by decide) rfl rfl ?_
  refine z_aload C 20 0 rfl dX2_init_19 rfl ?_
  refine z_bipush C 22 (40) (by decide) dX2_init_20 rfl ?_
  refine z_newaI C 24 dX2_init_22 ac_int kt_145 (by decide) (by decide) (by decide) (Nat.le_of_ble_eq_true rfl) (Nat.le_of_ble_eq_true rfl) rfl ?_
  refine z_putR C 27 [(144, 4), (144, 5), (144, 6), (144, 7), (144, 8), (78, 2)] (Or.inr ⟨_, rfl⟩) rf_144_3 rfl dX2_init_24 flX2_22 kt_144 (by decide) rfl rfl ?_
  refine z_aload C 28 0 rfl dX2_init_27 rfl ?_
  refine z_bipush C 30 (40) (by decide) dX2_init_28 rfl ?_
  refine z_newaI C 32 dX2_init_30 ac_int kt_146 (by decide) (by decide) (by decide) (Nat.le_of_ble_eq_true rfl) (Nat.le_of_ble_eq_true rfl) rfl ?_
  refine z_putR C 35 [(144, 5), (144, 6), (144, 7), (144, 8), (78, 2)] (Or.inr ⟨_, rfl⟩) rf_144_4 rfl dX2_init_32 flX2_26 kt_144 (by decide) rfl rfl ?_
  refine z_aload C 36 0 rfl dX2_init_35 rfl ?_
  refine z_bipush C 38 (40) (by decide) dX2_init_36 rfl ?_
  refine z_newaI C 40 dX2_init_38 ac_int kt_147 (by decide) (by decide) (by decide) (Nat.le_of_ble_eq_true rfl) (Nat.le_of_ble_eq_true rfl) rfl ?_
  refine z_putR C 43 [(144, 6), (144, 7), (144, 8), (78, 2)] (Or.inr ⟨_, rfl⟩) rf_144_5 rfl dX2_init_40 flX2_29 kt_144 (by decide) rfl rfl ?_
  refine z_aload C 44 0 rfl dX2_init_43 rfl ?_
  refine z_bipush C 46 (40) (by decide) dX2_init_44 rfl ?_
  refine z_newaI C 48 dX2_init_46 ac_int kt_148 (by decide) (by decide) (by decide) (Nat.le_of_ble_eq_true rfl) (Nat.le_of_ble_eq_true rfl) rfl ?_
  refine z_putR C 51 [(144, 7), (144, 8), (78, 2)] (Or.inr ⟨_, rfl⟩) rf_144_6 rfl dX2_init_48 flX2_32 kt_144 (by decide) rfl rfl ?_
  refine z_aload C 52 0 rfl dX2_init_51 rfl ?_
  refine z_bipush C 54 (40) (by decide) dX2_init_52 rfl ?_
  refine z_newaI C 56 dX2_init_54 ac_int kt_149 (by decide) (by decide) (by decide) (Nat.le_of_ble_eq_true rfl) (Nat.le_of_ble_eq_true rfl) rfl ?_
  refine z_putR C 59 [(144, 8), (78, 2)] (Or.inr ⟨_, rfl⟩) rf_144_7 rfl dX2_init_56 flX2_35 kt_144 (by decide) rfl rfl ?_
  refine z_aload C 60 0 rfl dX2_init_59 rfl ?_
  refine z_bipush C 62 (40) (by decide) dX2_init_60 rfl ?_
  refine z_newaI C 64 dX2_init_62 ac_int kt_150 (by decide) (by decide) (by decide) (Nat.le_of_ble_eq_true rfl) (Nat.le_of_ble_eq_true rfl) rfl ?_
  refine z_putR C 67 [(78, 2)] (Or.inr ⟨_, rfl⟩) rf_144_8 rfl dX2_init_64 flX2_38 kt_144 (by decide) rfl rfl ?_
  exact Z _ _ dX2_init_67
def hz_0 (h : CH) : CH := hz_144 (hz_137 (hz_130 (hz_126 (hz_121 (hz_117 (hz_81 (hz_79 (hz_71 (hz_63 (hz_55 (hz_31 (hz_7 (hz_2 (sI (sI (sI (h) 0 1 (0)) 0 2 (0)) 0 3 (-1)))))))))))))))
set_option maxRecDepth 20000 in
theorem mz_0 (h : CH) : MZ yX11_init cX11_init 2 1 151 [(0, 0), (0, 4), (0, 5), (0, 6), (0, 7), (0, 8), (0, 9), (0, 10), (0, 11), (0, 12), (0, 13), (0, 14), (0, 15)] [] 9 500 150 13369 (fun sz => [.ref (sz + 0)]) h (hz_0 h) := by
  refine mz_of RX11 (by decide +kernel) rfl rfl (fun sz => Nat.le_of_ble_eq_true rfl) (fun κ C Z => ?_)
  refine z_aload C 1 0 rfl dX11_init_0 rfl ?_
  refine z_obj C 4 dX11_init_1 obX11_1 (by decide) (by decide) (Nat.le_of_ble_eq_true rfl) rfl ?_
  refine z_aload C 5 0 rfl dX11_init_4 rfl ?_
  refine z_sipush C 8 (1600) (by decide) dX11_init_5 rfl ?_
  refine z_newaB C 10 dX11_init_8 ac_byte kt_1 (by decide) (by decide) (by decide) (Nat.le_of_ble_eq_true rfl) (Nat.le_of_ble_eq_true rfl) rfl ?_
  refine z_putR C 13 [(0, 4), (0, 5), (0, 6), (0, 7), (0, 8), (0, 9), (0, 10), (0, 11), (0, 12), (0, 13), (0, 14), (0, 15)] (Or.inr ⟨_, rfl⟩) rf_0_0 rfl dX11_init_10 flX11_9 kt_0 (by decide) rfl rfl ?_
  refine z_aload C 14 0 rfl dX11_init_13 rfl ?_
  refine z_iconst C 15 (0) (by decide) dX11_init_14 rfl ?_
  refine z_putI C 18 dX11_init_15 flX11_13 kt_0 (by decide) rfl rfl ?_
  refine z_aload C 19 0 rfl dX11_init_18 rfl ?_
  refine z_iconst C 20 (0) (by decide) dX11_init_19 rfl ?_
  refine z_putI C 23 dX11_init_20 flX11_17 kt_0 (by decide) rfl rfl ?_
  refine z_aload C 24 0 rfl dX11_init_23 rfl ?_
  refine z_iconst C 25 (-1) (by decide) dX11_init_24 rfl ?_
  refine z_putI C 28 dX11_init_25 flX11_20 kt_0 (by decide) rfl rfl ?_
  refine z_aload C 29 0 rfl dX11_init_28 rfl ?_
  refine z_new C 32 [(2, 0), (2, 1), (2, 2), (2, 3), (2, 4), (0, 4), (0, 5), (0, 6), (0, 7), (0, 8), (0, 9), (0, 10), (0, 11), (0, 12), (0, 13), (0, 14), (0, 15)] dX11_init_29 nlX11_23 kt_2 rfl (Nat.le_of_ble_eq_true rfl) (Nat.le_of_ble_eq_true rfl) rfl ?_
  refine z_dup C 33 dX11_init_32 rfl ?_
  refine z_aload C 34 0 rfl dX11_init_33 rfl ?_
  refine z_getR C 37 (b := 1) (by decide +kernel) dX11_init_34 flX11_9 kt_0 (by decide) rfl ?_
  refine z_call C 40 6 6442 dX11_init_37 liX11_25 (mz_2 _) (by decide) (by decide) (Nat.le_of_ble_eq_true rfl) (Nat.le_of_ble_eq_true rfl) rfl rfl rfl rfl (Nat.le_of_ble_eq_true rfl) rfl rfl ?_
  refine z_putR C 43 [(0, 5), (0, 6), (0, 7), (0, 8), (0, 9), (0, 10), (0, 11), (0, 12), (0, 13), (0, 14), (0, 15)] (Or.inl ⟨_, rfl⟩) rf_0_4 rfl dX11_init_40 flX11_28 kt_0 (by decide) rfl rfl ?_
  refine z_aload C 44 0 rfl dX11_init_43 rfl ?_
  refine z_new C 47 [(7, 4), (7, 5), (7, 6), (7, 7), (7, 8), (7, 9), (7, 10), (0, 5), (0, 6), (0, 7), (0, 8), (0, 9), (0, 10), (0, 11), (0, 12), (0, 13), (0, 14), (0, 15)] dX11_init_44 nlX11_32 kt_7 rfl (Nat.le_of_ble_eq_true rfl) (Nat.le_of_ble_eq_true rfl) rfl ?_
  refine z_dup C 48 dX11_init_47 rfl ?_
  refine z_callN C 51 30 6669 dX11_init_48 lnX9 (fun _ q => q.1) (mz_7 _) (by decide) (by decide) (Nat.le_of_ble_eq_true rfl) (Nat.le_of_ble_eq_true rfl) rfl rfl rfl rfl (Nat.le_of_ble_eq_true rfl) rfl rfl ?_
  refine z_putR C 54 [(0, 6), (0, 7), (0, 8), (0, 9), (0, 10), (0, 11), (0, 12), (0, 13), (0, 14), (0, 15)] (Or.inl ⟨_, rfl⟩) rf_0_5 rfl dX11_init_51 flX11_35 kt_0 (by decide) rfl rfl ?_
  refine z_aload C 55 0 rfl dX11_init_54 rfl ?_
  refine z_new C 58 [(31, 4), (31, 5), (31, 6), (31, 7), (31, 8), (31, 9), (31, 10), (0, 6), (0, 7), (0, 8), (0, 9), (0, 10), (0, 11), (0, 12), (0, 13), (0, 14), (0, 15)] dX11_init_55 nlX11_32 kt_31 rfl (Nat.le_of_ble_eq_true rfl) (Nat.le_of_ble_eq_true rfl) rfl ?_
  refine z_dup C 59 dX11_init_58 rfl ?_
  refine z_callN C 62 54 6896 dX11_init_59 lnX9 (fun _ q => q.1) (mz_31 _) (by decide) (by decide) (Nat.le_of_ble_eq_true rfl) (Nat.le_of_ble_eq_true rfl) rfl rfl rfl rfl (Nat.le_of_ble_eq_true rfl) rfl rfl ?_
  refine z_putR C 65 [(0, 7), (0, 8), (0, 9), (0, 10), (0, 11), (0, 12), (0, 13), (0, 14), (0, 15)] (Or.inl ⟨_, rfl⟩) rf_0_6 rfl dX11_init_62 flX11_39 kt_0 (by decide) rfl rfl ?_
  refine z_aload C 66 0 rfl dX11_init_65 rfl ?_
  refine z_new C 69 [(55, 6), (55, 7), (55, 8), (55, 9), (55, 10), (55, 11), (55, 12), (0, 7), (0, 8), (0, 9), (0, 10), (0, 11), (0, 12), (0, 13), (0, 14), (0, 15)] dX11_init_66 nlX11_42 kt_55 rfl (Nat.le_of_ble_eq_true rfl) (Nat.le_of_ble_eq_true rfl) rfl ?_
  refine z_dup C 70 dX11_init_69 rfl ?_
  refine z_callN C 73 62 8579 dX11_init_70 lnX5 (fun _ q => q.2.1) (mz_55 _) (by decide) (by decide) (Nat.le_of_ble_eq_true rfl) (Nat.le_of_ble_eq_true rfl) rfl rfl rfl rfl (Nat.le_of_ble_eq_true rfl) rfl rfl ?_
  refine z_putR C 76 [(0, 8), (0, 9), (0, 10), (0, 11), (0, 12), (0, 13), (0, 14), (0, 15)] (Or.inl ⟨_, rfl⟩) rf_0_7 rfl dX11_init_73 flX11_45 kt_0 (by decide) rfl rfl ?_
  refine z_aload C 77 0 rfl dX11_init_76 rfl ?_
  refine z_new C 80 [(63, 6), (63, 7), (63, 8), (63, 9), (63, 10), (63, 11), (63, 12), (0, 8), (0, 9), (0, 10), (0, 11), (0, 12), (0, 13), (0, 14), (0, 15)] dX11_init_77 nlX11_42 kt_63 rfl (Nat.le_of_ble_eq_true rfl) (Nat.le_of_ble_eq_true rfl) rfl ?_
  refine z_dup C 81 dX11_init_80 rfl ?_
  refine z_callN C 84 70 10262 dX11_init_81 lnX5 (fun _ q => q.2.1) (mz_63 _) (by decide) (by decide) (Nat.le_of_ble_eq_true rfl) (Nat.le_of_ble_eq_true rfl) rfl rfl rfl rfl (Nat.le_of_ble_eq_true rfl) rfl rfl ?_
  refine z_putR C 87 [(0, 9), (0, 10), (0, 11), (0, 12), (0, 13), (0, 14), (0, 15)] (Or.inl ⟨_, rfl⟩) rf_0_8 rfl dX11_init_84 flX11_49 kt_0 (by decide) rfl rfl ?_
  refine z_aload C 88 0 rfl dX11_init_87 rfl ?_
  refine z_new C 91 [(71, 3), (71, 4), (71, 5), (71, 6), (71, 7), (71, 8), (0, 9), (0, 10), (0, 11), (0, 12), (0, 13), (0, 14), (0, 15)] dX11_init_88 nlX11_52 kt_71 rfl (Nat.le_of_ble_eq_true rfl) (Nat.le_of_ble_eq_true rfl) rfl ?_
  refine z_dup C 92 dX11_init_91 rfl ?_
  refine z_callN C 95 77 10511 dX11_init_92 lnX2 (fun _ q => q.2.2) (mz_71 _) (by decide) (by decide) (Nat.le_of_ble_eq_true rfl) (Nat.le_of_ble_eq_true rfl) rfl rfl rfl rfl (Nat.le_of_ble_eq_true rfl) rfl rfl ?_
  refine z_putR C 98 [(0, 10), (0, 11), (0, 12), (0, 13), (0, 14), (0, 15)] (Or.inl ⟨_, rfl⟩) rf_0_9 rfl dX11_init_95 flX11_55 kt_0 (by decide) rfl rfl ?_
  refine z_aload C 99 0 rfl dX11_init_98 rfl ?_
  refine z_iconst C 100 (3) (by decide) dX11_init_99 rfl ?_
  refine z_anew C 103 [(78, 0), (78, 1), (78, 2), (0, 10), (0, 11), (0, 12), (0, 13), (0, 14), (0, 15)] dX11_init_100 clX11_52 kt_78 rfl (by decide) (by decide) (by decide) (Nat.le_of_ble_eq_true rfl) (Nat.le_of_ble_eq_true rfl) rfl ?_
  refine z_putR C 106 [(78, 0), (78, 1), (78, 2), (0, 11), (0, 12), (0, 13), (0, 14), (0, 15)] (Or.inr ⟨_, rfl⟩) rf_0_10 rfl dX11_init_103 flX11_59 kt_0 (by decide) rfl rfl ?_
  refine z_aload C 107 0 rfl dX11_init_106 rfl ?_
  refine z_new C 110 [(79, 0), (79, 1), (79, 2), (78, 0), (78, 1), (78, 2), (0, 11), (0, 12), (0, 13), (0, 14), (0, 15)] dX11_init_107 nlX11_63 kt_79 rfl (Nat.le_of_ble_eq_true rfl) (Nat.le_of_ble_eq_true rfl) rfl ?_
  refine z_dup C 111 dX11_init_110 rfl ?_
  refine z_aload C 112 0 rfl dX11_init_111 rfl ?_
  refine z_getR C 115 (b := 7) (by decide +kernel) dX11_init_112 flX11_35 kt_0 (by decide) rfl ?_
  refine z_aload C 116 0 rfl dX11_init_115 rfl ?_
  refine z_getR C 119 (b := 55) (by decide +kernel) dX11_init_116 flX11_45 kt_0 (by decide) rfl ?_
  refine z_call C 122 80 10525 dX11_init_119 liX11_65 (mz_79 _) (by decide) (by decide) (Nat.le_of_ble_eq_true rfl) (Nat.le_of_ble_eq_true rfl) rfl rfl rfl rfl (Nat.le_of_ble_eq_true rfl) rfl rfl ?_
  refine z_putR C 125 [(78, 0), (78, 1), (78, 2), (0, 12), (0, 13), (0, 14), (0, 15)] (Or.inl ⟨_, rfl⟩) rf_0_11 rfl dX11_init_122 flX11_68 kt_0 (by decide) rfl rfl ?_
  refine z_aload C 126 0 rfl dX11_init_125 rfl ?_
  refine z_new C 129 [(81, 0), (81, 1), (81, 2), (81, 3), (81, 4), (78, 0), (78, 1), (78, 2), (0, 12), (0, 13), (0, 14), (0, 15)] dX11_init_126 nlX11_72 kt_81 rfl (Nat.le_of_ble_eq_true rfl) (Nat.le_of_ble_eq_true rfl) rfl ?_
  refine z_dup C 130 dX11_init_129 rfl ?_
  refine z_aload C 131 0 rfl dX11_init_130 rfl ?_
  refine z_getR C 134 (b := 7) (by decide +kernel) dX11_init_131 flX11_35 kt_0 (by decide) rfl ?_
  refine z_aload C 135 0 rfl dX11_init_134 rfl ?_
  refine z_getR C 138 (b := 55) (by decide +kernel) dX11_init_135 flX11_45 kt_0 (by decide) rfl ?_
  refine z_call C 141 116 10828 dX11_init_138 liX11_74 (mz_81 _) (by decide) (by decide) (Nat.le_of_ble_eq_true rfl) (Nat.le_of_ble_eq_true rfl) rfl rfl rfl rfl (Nat.le_of_ble_eq_true rfl) rfl rfl ?_
  refine z_putR C 144 [(78, 0), (78, 1), (78, 2), (0, 13), (0, 14), (0, 15)] (Or.inl ⟨_, rfl⟩) rf_0_12 rfl dX11_init_141 flX11_75 kt_0 (by decide) rfl rfl ?_
  refine z_aload C 145 0 rfl dX11_init_144 rfl ?_
  refine z_new C 148 [(117, 0), (117, 1), (117, 2), (117, 3), (117, 4), (78, 0), (78, 1), (78, 2), (0, 13), (0, 14), (0, 15)] dX11_init_145 nlX11_79 kt_117 rfl (Nat.le_of_ble_eq_true rfl) (Nat.le_of_ble_eq_true rfl) rfl ?_
  refine z_dup C 149 dX11_init_148 rfl ?_
  refine z_aload C 150 0 rfl dX11_init_149 rfl ?_
  refine z_getR C 153 (b := 7) (by decide +kernel) dX11_init_150 flX11_35 kt_0 (by decide) rfl ?_
  refine z_aload C 154 0 rfl dX11_init_153 rfl ?_
  refine z_getR C 157 (b := 81) (by decide +kernel) dX11_init_154 flX11_75 kt_0 (by decide) rfl ?_
  refine z_call C 160 120 12439 dX11_init_157 liX11_81 (mz_117 _) (by decide) (by decide) (Nat.le_of_ble_eq_true rfl) (Nat.le_of_ble_eq_true rfl) rfl rfl rfl rfl (Nat.le_of_ble_eq_true rfl) rfl rfl ?_
  refine z_putR C 163 [(78, 0), (78, 1), (78, 2), (0, 14), (0, 15)] (Or.inl ⟨_, rfl⟩) rf_0_13 rfl dX11_init_160 flX11_84 kt_0 (by decide) rfl rfl ?_
  refine z_aload C 164 0 rfl dX11_init_163 rfl ?_
  refine z_new C 167 [(121, 0), (121, 1), (121, 2), (121, 3), (121, 4), (121, 5), (121, 6), (78, 0), (78, 1), (78, 2), (0, 14), (0, 15)] dX11_init_164 nlX11_88 kt_121 rfl (Nat.le_of_ble_eq_true rfl) (Nat.le_of_ble_eq_true rfl) rfl ?_
  refine z_dup C 168 dX11_init_167 rfl ?_
  refine z_aload C 169 0 rfl dX11_init_168 rfl ?_
  refine z_getR C 172 (b := 7) (by decide +kernel) dX11_init_169 flX11_35 kt_0 (by decide) rfl ?_
  refine z_aload C 173 0 rfl dX11_init_172 rfl ?_
  refine z_getR C 176 (b := 71) (by decide +kernel) dX11_init_173 flX11_55 kt_0 (by decide) rfl ?_
  refine z_aload C 177 0 rfl dX11_init_176 rfl ?_
  refine z_getR C 180 (b := 79) (by decide +kernel) dX11_init_177 flX11_68 kt_0 (by decide) rfl ?_
  refine z_call C 183 125 12495 dX11_init_180 liX11_90 (mz_121 _) (by decide) (by decide) (Nat.le_of_ble_eq_true rfl) (Nat.le_of_ble_eq_true rfl) rfl rfl rfl rfl (Nat.le_of_ble_eq_true rfl) rfl rfl ?_
  refine z_putR C 186 [(78, 0), (78, 1), (78, 2), (0, 15)] (Or.inl ⟨_, rfl⟩) rf_0_14 rfl dX11_init_183 flX11_93 kt_0 (by decide) rfl rfl ?_
  refine z_aload C 187 0 rfl dX11_init_186 rfl ?_
  refine z_new C 190 [(126, 0), (126, 1), (126, 2), (126, 3), (126, 4), (78, 0), (78, 1), (78, 2), (0, 15)] dX11_init_187 nlX11_97 kt_126 rfl (Nat.le_of_ble_eq_true rfl) (Nat.le_of_ble_eq_true rfl) rfl ?_
  refine z_dup C 191 dX11_init_190 rfl ?_
  refine z_aload C 192 0 rfl dX11_init_191 rfl ?_
  refine z_getR C 195 (b := 7) (by decide +kernel) dX11_init_192 flX11_35 kt_0 (by decide) rfl ?_
  refine z_aload C 196 0 rfl dX11_init_195 rfl ?_
  refine z_getR C 199 (b := 71) (by decide +kernel) dX11_init_196 flX11_55 kt_0 (by decide) rfl ?_
  refine z_call C 202 129 12622 dX11_init_199 liX11_99 (mz_126 _) (by decide) (by decide) (Nat.le_of_ble_eq_true rfl) (Nat.le_of_ble_eq_true rfl) rfl rfl rfl rfl (Nat.le_of_ble_eq_true rfl) rfl rfl ?_
  refine z_putR C 205 [(78, 0), (78, 1), (78, 2)] (Or.inl ⟨_, rfl⟩) rf_0_15 rfl dX11_init_202 flX11_102 kt_0 (by decide) rfl rfl ?_
  refine z_iconst C 206 (0) (by decide) dX11_init_205 rfl ?_
  refine z_istore C 207 1 _ dX11_init_206 rfl (by decide) rfl rfl ?_
  refine z_iload C 208 0 rfl dX11_init_207 rfl ?_
  refine z_iconst C 209 (3) (by decide) dX11_init_208 rfl ?_
  refine z_ge C 212 231 dX11_init_209 rfl rfl (fun _ => ?_) (fun q => absurd q (by decide))
  refine z_aload C 213 1 rfl dX11_init_212 rfl ?_
  refine z_getR C 216 (b := 78) (by decide +kernel) dX11_init_213 flX11_59 kt_0 (by decide) rfl ?_
  refine z_iload C 217 0 rfl dX11_init_216 rfl ?_
  refine z_new C 220 [(130, 3), (130, 4), (130, 5), (130, 6), (130, 7), (130, 8), (78, 0), (78, 1), (78, 2)] dX11_init_217 nlX11_52 kt_130 rfl (Nat.le_of_ble_eq_true rfl) (Nat.le_of_ble_eq_true rfl) rfl ?_
  refine z_dup C 221 dX11_init_220 rfl ?_
  refine z_callN C 224 136 12871 dX11_init_221 lnX2 (fun _ q => q.2.2) (mz_130 _) (by decide) (by decide) (Nat.le_of_ble_eq_true rfl) (Nat.le_of_ble_eq_true rfl) rfl rfl rfl rfl (Nat.le_of_ble_eq_true rfl) rfl rfl ?_
  refine z_aast C (k := 0) 225 [(78, 1), (78, 2)] dX11_init_224 kt_78 (by decide) kt_130 (by decide) rfl (by decide +kernel) (by decide) (by decide) (by decide) rfl rfl ?_
  refine z_iinc C 228 0 (1) _ dX11_init_225 rfl (by decide) (by decide) rfl rfl ?_
  refine z_goto C 207 dX11_init_228 rfl ?_
  refine z_iload C 208 0 rfl dX11_init_207 rfl ?_
  refine z_iconst C 209 (3) (by decide) dX11_init_208 rfl ?_
  refine z_ge C 212 231 dX11_init_209 rfl rfl (fun _ => ?_) (fun q => absurd q (by decide))
  refine z_aload C 213 1 rfl dX11_init_212 rfl ?_
  refine z_getR C 216 (b := 78) (by decide +kernel) dX11_init_213 flX11_59 kt_0 (by decide) rfl ?_
  refine z_iload C 217 0 rfl dX11_init_216 rfl ?_
  refine z_new C 220 [(137, 3), (137, 4), (137, 5), (137, 6), (137, 7), (137, 8), (78, 1), (78, 2)] dX11_init_217 nlX11_52 kt_137 rfl (Nat.le_of_ble_eq_true rfl) (Nat.le_of_ble_eq_true rfl) rfl ?_
  refine z_dup C 221 dX11_init_220 rfl ?_
  refine z_callN C 224 143 13120 dX11_init_221 lnX2 (fun _ q => q.2.2) (mz_137 _) (by decide) (by decide) (Nat.le_of_ble_eq_true rfl) (Nat.le_of_ble_eq_true rfl) rfl rfl rfl rfl (Nat.le_of_ble_eq_true rfl) rfl rfl ?_
  refine z_aast C (k := 1) 225 [(78, 2)] dX11_init_224 kt_78 (by decide) kt_137 (by decide) rfl (by decide +kernel) (by decide) (by decide) (by decide) rfl rfl ?_
  refine z_iinc C 228 0 (1) _ dX11_init_225 rfl (by decide) (by decide) rfl rfl ?_
  refine z_goto C 207 dX11_init_228 rfl ?_
  refine z_iload C 208 0 rfl dX11_init_207 rfl ?_
  refine z_iconst C 209 (3) (by decide) dX11_init_208 rfl ?_
  refine z_ge C 212 231 dX11_init_209 rfl rfl (fun _ => ?_) (fun q => absurd q (by decide))
  refine z_aload C 213 1 rfl dX11_init_212 rfl ?_
  refine z_getR C 216 (b := 78) (by decide +kernel) dX11_init_213 flX11_59 kt_0 (by decide) rfl ?_
  refine z_iload C 217 0 rfl dX11_init_216 rfl ?_
  refine z_new C 220 [(144, 3), (144, 4), (144, 5), (144, 6), (144, 7), (144, 8), (78, 2)] dX11_init_217 nlX11_52 kt_144 rfl (Nat.le_of_ble_eq_true rfl) (Nat.le_of_ble_eq_true rfl) rfl ?_
  refine z_dup C 221 dX11_init_220 rfl ?_
  refine z_callN C 224 150 13369 dX11_init_221 lnX2 (fun _ q => q.2.2) (mz_144 _) (by decide) (by decide) (Nat.le_of_ble_eq_true rfl) (Nat.le_of_ble_eq_true rfl) rfl rfl rfl rfl (Nat.le_of_ble_eq_true rfl) rfl rfl ?_
  refine z_aast C (k := 2) 225 [] dX11_init_224 kt_78 (by decide) kt_144 (by decide) rfl (by decide +kernel) (by decide) (by decide) (by decide) rfl rfl ?_
  refine z_iinc C 228 0 (1) _ dX11_init_225 rfl (by decide) (by decide) rfl rfl ?_
  refine z_goto C 207 dX11_init_228 rfl ?_
  refine z_iload C 208 0 rfl dX11_init_207 rfl ?_
  refine z_iconst C 209 (3) (by decide) dX11_init_208 rfl ?_
  refine z_ge C 212 231 dX11_init_209 rfl rfl (fun q => absurd q (by decide)) (fun _ => ?_)
  exact Z _ _ dX11_init_231
def hz_151 (h : CH) : CH := sI (h) 151 5 (-1)
set_option maxRecDepth 20000 in
theorem mz_151 (h h1 : CH) (HO : f_X12_tail (hz_151 h) = some ((), h1)) : MY yX12_init cX12_init 2 152 [(151, 0), (151, 1), (151, 12), (151, 13), (151, 14), (151, 15), (151, 16), (151, 17), (151, 18), (151, 19), (151, 20), (151, 21), (151, 22), (151, 23), (151, 24), (151, 25), (151, 28), (151, 29), (151, 30), (151, 31), (151, 32), (151, 33), (151, 34), (151, 35), (151, 52), (151, 53), (151, 54), (151, 55), (151, 56), (151, 57), (151, 58), (151, 59), (151, 65), (151, 66), (151, 67), (151, 68), (151, 69), (151, 70), (151, 71), (151, 72), (151, 73)] 2 80 41 6546 (fun sz => [.ref (sz + 151)]) h h1 := by
  refine my_of RX12 (by decide +kernel) rfl rfl (fun sz => Nat.le_of_ble_eq_true rfl) (fun κ C C2 Rr Br => ?_)
  refine z_aload C 1 0 rfl dX12_init_0 rfl ?_
  refine z_obj C 4 dX12_init_1 obX12_1 (by decide) (by decide) (Nat.le_of_ble_eq_true rfl) rfl ?_
  refine z_aload C 5 0 rfl dX12_init_4 rfl ?_
  refine z_sipush C 8 (1620) (by decide) dX12_init_5 rfl ?_
  refine z_newaB C 10 dX12_init_8 ac_byte kt_152 (by decide) (by decide) (by decide) (Nat.le_of_ble_eq_true rfl) (Nat.le_of_ble_eq_true rfl) rfl ?_
  refine z_putR C 13 [(151, 1), (151, 12), (151, 13), (151, 14), (151, 15), (151, 16), (151, 17), (151, 18), (151, 19), (151, 20), (151, 21), (151, 22), (151, 23), (151, 24), (151, 25), (151, 28), (151, 29), (151, 30), (151, 31), (151, 32), (151, 33), (151, 34), (151, 35), (151, 52), (151, 53), (151, 54), (151, 55), (151, 56), (151, 57), (151, 58), (151, 59), (151, 65), (151, 66), (151, 67), (151, 68), (151, 69), (151, 70), (151, 71), (151, 72), (151, 73)] (Or.inr ⟨_, rfl⟩) rf_151_0 rfl dX12_init_10 flX12_7 kt_151 (by decide) rfl rfl ?_
  refine z_aload C 14 0 rfl dX12_init_13 rfl ?_
  refine z_sipush C 17 (1600) (by decide) dX12_init_14 rfl ?_
  refine z_newaB C 19 dX12_init_17 ac_byte kt_153 (by decide) (by decide) (by decide) (Nat.le_of_ble_eq_true rfl) (Nat.le_of_ble_eq_true rfl) rfl ?_
  refine z_putR C 22 [(151, 12), (151, 13), (151, 14), (151, 15), (151, 16), (151, 17), (151, 18), (151, 19), (151, 20), (151, 21), (151, 22), (151, 23), (151, 24), (151, 25), (151, 28), (151, 29), (151, 30), (151, 31), (151, 32), (151, 33), (151, 34), (151, 35), (151, 52), (151, 53), (151, 54), (151, 55), (151, 56), (151, 57), (151, 58), (151, 59), (151, 65), (151, 66), (151, 67), (151, 68), (151, 69), (151, 70), (151, 71), (151, 72), (151, 73)] (Or.inr ⟨_, rfl⟩) rf_151_1 rfl dX12_init_19 flX12_13 kt_151 (by decide) rfl rfl ?_
  refine z_aload C 23 0 rfl dX12_init_22 rfl ?_
  refine z_iconst C 24 (-1) (by decide) dX12_init_23 rfl ?_
  refine z_putI C 27 dX12_init_24 flX12_16 kt_151 (by decide) rfl rfl ?_
  refine z_aload C 28 0 rfl dX12_init_27 rfl ?_
  refine z_iconst C 29 (2) (by decide) dX12_init_28 rfl ?_
  refine z_newaI C 31 dX12_init_29 ac_int kt_154 (by decide) (by decide) (by decide) (Nat.le_of_ble_eq_true rfl) (Nat.le_of_ble_eq_true rfl) rfl ?_
  refine z_putR C 34 [(151, 13), (151, 14), (151, 15), (151, 16), (151, 17), (151, 18), (151, 19), (151, 20), (151, 21), (151, 22), (151, 23), (151, 24), (151, 25), (151, 28), (151, 29), (151, 30), (151, 31), (151, 32), (151, 33), (151, 34), (151, 35), (151, 52), (151, 53), (151, 54), (151, 55), (151, 56), (151, 57), (151, 58), (151, 59), (151, 65), (151, 66), (151, 67), (151, 68), (151, 69), (151, 70), (151, 71), (151, 72), (151, 73)] (Or.inr ⟨_, rfl⟩) rf_151_12 rfl dX12_init_31 flX12_20 kt_151 (by decide) rfl rfl ?_
  refine z_aload C 35 0 rfl dX12_init_34 rfl ?_
  refine z_iconst C 36 (2) (by decide) dX12_init_35 rfl ?_
  refine z_newaI C 38 dX12_init_36 ac_int kt_155 (by decide) (by decide) (by decide) (Nat.le_of_ble_eq_true rfl) (Nat.le_of_ble_eq_true rfl) rfl ?_
  refine z_putR C 41 [(151, 14), (151, 15), (151, 16), (151, 17), (151, 18), (151, 19), (151, 20), (151, 21), (151, 22), (151, 23), (151, 24), (151, 25), (151, 28), (151, 29), (151, 30), (151, 31), (151, 32), (151, 33), (151, 34), (151, 35), (151, 52), (151, 53), (151, 54), (151, 55), (151, 56), (151, 57), (151, 58), (151, 59), (151, 65), (151, 66), (151, 67), (151, 68), (151, 69), (151, 70), (151, 71), (151, 72), (151, 73)] (Or.inr ⟨_, rfl⟩) rf_151_13 rfl dX12_init_38 flX12_24 kt_151 (by decide) rfl rfl ?_
  refine z_aload C 42 0 rfl dX12_init_41 rfl ?_
  refine z_iconst C 43 (2) (by decide) dX12_init_42 rfl ?_
  refine z_newaI C 45 dX12_init_43 ac_int kt_156 (by decide) (by decide) (by decide) (Nat.le_of_ble_eq_true rfl) (Nat.le_of_ble_eq_true rfl) rfl ?_
  refine z_putR C 48 [(151, 15), (151, 16), (151, 17), (151, 18), (151, 19), (151, 20), (151, 21), (151, 22), (151, 23), (151, 24), (151, 25), (151, 28), (151, 29), (151, 30), (151, 31), (151, 32), (151, 33), (151, 34), (151, 35), (151, 52), (151, 53), (151, 54), (151, 55), (151, 56), (151, 57), (151, 58), (151, 59), (151, 65), (151, 66), (151, 67), (151, 68), (151, 69), (151, 70), (151, 71), (151, 72), (151, 73)] (Or.inr ⟨_, rfl⟩) rf_151_14 rfl dX12_init_45 flX12_27 kt_151 (by decide) rfl rfl ?_
  refine z_aload C 49 0 rfl dX12_init_48 rfl ?_
  refine z_iconst C 50 (2) (by decide) dX12_init_49 rfl ?_
  refine z_newaI C 52 dX12_init_50 ac_int kt_157 (by decide) (by decide) (by decide) (Nat.le_of_ble_eq_true rfl) (Nat.le_of_ble_eq_true rfl) rfl ?_
  refine z_putR C 55 [(151, 16), (151, 17), (151, 18), (151, 19), (151, 20), (151, 21), (151, 22), (151, 23), (151, 24), (151, 25), (151, 28), (151, 29), (151, 30), (151, 31), (151, 32), (151, 33), (151, 34), (151, 35), (151, 52), (151, 53), (151, 54), (151, 55), (151, 56), (151, 57), (151, 58), (151, 59), (151, 65), (151, 66), (151, 67), (151, 68), (151, 69), (151, 70), (151, 71), (151, 72), (151, 73)] (Or.inr ⟨_, rfl⟩) rf_151_15 rfl dX12_init_52 flX12_30 kt_151 (by decide) rfl rfl ?_
  refine z_aload C 56 0 rfl dX12_init_55 rfl ?_
  refine z_bipush C 58 (32) (by decide) dX12_init_56 rfl ?_
  refine z_newaI C 60 dX12_init_58 ac_int kt_158 (by decide) (by decide) (by decide) (Nat.le_of_ble_eq_true rfl) (Nat.le_of_ble_eq_true rfl) rfl ?_
  refine z_putR C 63 [(151, 17), (151, 18), (151, 19), (151, 20), (151, 21), (151, 22), (151, 23), (151, 24), (151, 25), (151, 28), (151, 29), (151, 30), (151, 31), (151, 32), (151, 33), (151, 34), (151, 35), (151, 52), (151, 53), (151, 54), (151, 55), (151, 56), (151, 57), (151, 58), (151, 59), (151, 65), (151, 66), (151, 67), (151, 68), (151, 69), (151, 70), (151, 71), (151, 72), (151, 73)] (Or.inr ⟨_, rfl⟩) rf_151_16 rfl dX12_init_60 flX12_33 kt_151 (by decide) rfl rfl ?_
  refine z_aload C 64 0 rfl dX12_init_63 rfl ?_
  refine z_bipush C 66 (32) (by decide) dX12_init_64 rfl ?_
  refine z_newaI C 68 dX12_init_66 ac_int kt_159 (by decide) (by decide) (by decide) (Nat.le_of_ble_eq_true rfl) (Nat.le_of_ble_eq_true rfl) rfl ?_
  refine z_putR C 71 [(151, 18), (151, 19), (151, 20), (151, 21), (151, 22), (151, 23), (151, 24), (151, 25), (151, 28), (151, 29), (151, 30), (151, 31), (151, 32), (151, 33), (151, 34), (151, 35), (151, 52), (151, 53), (151, 54), (151, 55), (151, 56), (151, 57), (151, 58), (151, 59), (151, 65), (151, 66), (151, 67), (151, 68), (151, 69), (151, 70), (151, 71), (151, 72), (151, 73)] (Or.inr ⟨_, rfl⟩) rf_151_17 rfl dX12_init_68 flX12_36 kt_151 (by decide) rfl rfl ?_
  refine z_aload C 72 0 rfl dX12_init_71 rfl ?_
  refine z_sipush C 75 (256) (by decide) dX12_init_72 rfl ?_
  refine z_newaI C 77 dX12_init_75 ac_int kt_160 (by decide) (by decide) (by decide) (Nat.le_of_ble_eq_true rfl) (Nat.le_of_ble_eq_true rfl) rfl ?_
  refine z_putR C 80 [(151, 19), (151, 20), (151, 21), (151, 22), (151, 23), (151, 24), (151, 25), (151, 28), (151, 29), (151, 30), (151, 31), (151, 32), (151, 33), (151, 34), (151, 35), (151, 52), (151, 53), (151, 54), (151, 55), (151, 56), (151, 57), (151, 58), (151, 59), (151, 65), (151, 66), (151, 67), (151, 68), (151, 69), (151, 70), (151, 71), (151, 72), (151, 73)] (Or.inr ⟨_, rfl⟩) rf_151_18 rfl dX12_init_77 flX12_39 kt_151 (by decide) rfl rfl ?_
  refine z_aload C 81 0 rfl dX12_init_80 rfl ?_
  refine z_bipush C 83 (32) (by decide) dX12_init_81 rfl ?_
  refine z_newaI C 85 dX12_init_83 ac_int kt_161 (by decide) (by decide) (by decide) (Nat.le_of_ble_eq_true rfl) (Nat.le_of_ble_eq_true rfl) rfl ?_
  refine z_putR C 88 [(151, 20), (151, 21), (151, 22), (151, 23), (151, 24), (151, 25), (151, 28), (151, 29), (151, 30), (151, 31), (151, 32), (151, 33), (151, 34), (151, 35), (151, 52), (151, 53), (151, 54), (151, 55), (151, 56), (151, 57), (151, 58), (151, 59), (151, 65), (151, 66), (151, 67), (151, 68), (151, 69), (151, 70), (151, 71), (151, 72), (151, 73)] (Or.inr ⟨_, rfl⟩) rf_151_19 rfl dX12_init_85 flX12_42 kt_151 (by decide) rfl rfl ?_
  refine z_aload C 89 0 rfl dX12_init_88 rfl ?_
  refine z_bipush C 91 (8) (by decide) dX12_init_89 rfl ?_
  refine z_newaI C 93 dX12_init_91 ac_int kt_162 (by decide) (by decide) (by decide) (Nat.le_of_ble_eq_true rfl) (Nat.le_of_ble_eq_true rfl) rfl ?_
  refine z_putR C 96 [(151, 21), (151, 22), (151, 23), (151, 24), (151, 25), (151, 28), (151, 29), (151, 30), (151, 31), (151, 32), (151, 33), (151, 34), (151, 35), (151, 52), (151, 53), (151, 54), (151, 55), (151, 56), (151, 57), (151, 58), (151, 59), (151, 65), (151, 66), (151, 67), (151, 68), (151, 69), (151, 70), (151, 71), (151, 72), (151, 73)] (Or.inr ⟨_, rfl⟩) rf_151_20 rfl dX12_init_93 flX12_45 kt_151 (by decide) rfl rfl ?_
  refine z_aload C 97 0 rfl dX12_init_96 rfl ?_
  refine z_bipush C 99 (8) (by decide) dX12_init_97 rfl ?_
  refine z_newaI C 101 dX12_init_99 ac_int kt_163 (by decide) (by decide) (by decide) (Nat.le_of_ble_eq_true rfl) (Nat.le_of_ble_eq_true rfl) rfl ?_
  refine z_putR C 104 [(151, 22), (151, 23), (151, 24), (151, 25), (151, 28), (151, 29), (151, 30), (151, 31), (151, 32), (151, 33), (151, 34), (151, 35), (151, 52), (151, 53), (151, 54), (151, 55), (151, 56), (151, 57), (151, 58), (151, 59), (151, 65), (151, 66), (151, 67), (151, 68), (151, 69), (151, 70), (151, 71), (151, 72), (151, 73)] (Or.inr ⟨_, rfl⟩) rf_151_21 rfl dX12_init_101 flX12_48 kt_151 (by decide) rfl rfl ?_
  refine z_aload C 105 0 rfl dX12_init_104 rfl ?_
  refine z_iconst C 106 (2) (by decide) dX12_init_105 rfl ?_
  refine z_newaZ C 108 dX12_init_106 ac_boolean kt_164 (by decide) (by decide) (by decide) (Nat.le_of_ble_eq_true rfl) (Nat.le_of_ble_eq_true rfl) rfl ?_
  refine z_putR C 111 [(151, 23), (151, 24), (151, 25), (151, 28), (151, 29), (151, 30), (151, 31), (151, 32), (151, 33), (151, 34), (151, 35), (151, 52), (151, 53), (151, 54), (151, 55), (151, 56), (151, 57), (151, 58), (151, 59), (151, 65), (151, 66), (151, 67), (151, 68), (151, 69), (151, 70), (151, 71), (151, 72), (151, 73)] (Or.inr ⟨_, rfl⟩) rf_151_22 rfl dX12_init_108 flX12_51 kt_151 (by decide) rfl rfl ?_
  refine z_aload C 112 0 rfl dX12_init_111 rfl ?_
  refine z_iconst C 113 (2) (by decide) dX12_init_112 rfl ?_
  refine z_newaZ C 115 dX12_init_113 ac_boolean kt_165 (by decide) (by decide) (by decide) (Nat.le_of_ble_eq_true rfl) (Nat.le_of_ble_eq_true rfl) rfl ?_
  refine z_putR C 118 [(151, 24), (151, 25), (151, 28), (151, 29), (151, 30), (151, 31), (151, 32), (151, 33), (151, 34), (151, 35), (151, 52), (151, 53), (151, 54), (151, 55), (151, 56), (151, 57), (151, 58), (151, 59), (151, 65), (151, 66), (151, 67), (151, 68), (151, 69), (151, 70), (151, 71), (151, 72), (151, 73)] (Or.inr ⟨_, rfl⟩) rf_151_23 rfl dX12_init_115 flX12_55 kt_151 (by decide) rfl rfl ?_
  refine z_aload C 119 0 rfl dX12_init_118 rfl ?_
  refine z_bipush C 121 (8) (by decide) dX12_init_119 rfl ?_
  refine z_newaZ C 123 dX12_init_121 ac_boolean kt_166 (by decide) (by decide) (by decide) (Nat.le_of_ble_eq_true rfl) (Nat.le_of_ble_eq_true rfl) rfl ?_
  refine z_putR C 126 [(151, 25), (151, 28), (151, 29), (151, 30), (151, 31), (151, 32), (151, 33), (151, 34), (151, 35), (151, 52), (151, 53), (151, 54), (151, 55), (151, 56), (151, 57), (151, 58), (151, 59), (151, 65), (151, 66), (151, 67), (151, 68), (151, 69), (151, 70), (151, 71), (151, 72), (151, 73)] (Or.inr ⟨_, rfl⟩) rf_151_24 rfl dX12_init_123 flX12_58 kt_151 (by decide) rfl rfl ?_
  refine z_aload C 127 0 rfl dX12_init_126 rfl ?_
  refine z_bipush C 129 (32) (by decide) dX12_init_127 rfl ?_
  refine z_newaL C 131 dX12_init_129 ac_long kt_167 (by decide) (by decide) (by decide) (Nat.le_of_ble_eq_true rfl) (Nat.le_of_ble_eq_true rfl) rfl ?_
  refine z_putR C 134 [(151, 28), (151, 29), (151, 30), (151, 31), (151, 32), (151, 33), (151, 34), (151, 35), (151, 52), (151, 53), (151, 54), (151, 55), (151, 56), (151, 57), (151, 58), (151, 59), (151, 65), (151, 66), (151, 67), (151, 68), (151, 69), (151, 70), (151, 71), (151, 72), (151, 73)] (Or.inr ⟨_, rfl⟩) rf_151_25 rfl dX12_init_131 flX12_61 kt_151 (by decide) rfl rfl ?_
  refine z_aload C 135 0 rfl dX12_init_134 rfl ?_
  refine z_sipush C 138 (800) (by decide) dX12_init_135 rfl ?_
  refine z_newaI C 140 dX12_init_138 ac_int kt_168 (by decide) (by decide) (by decide) (Nat.le_of_ble_eq_true rfl) (Nat.le_of_ble_eq_true rfl) rfl ?_
  refine z_putR C 143 [(151, 29), (151, 30), (151, 31), (151, 32), (151, 33), (151, 34), (151, 35), (151, 52), (151, 53), (151, 54), (151, 55), (151, 56), (151, 57), (151, 58), (151, 59), (151, 65), (151, 66), (151, 67), (151, 68), (151, 69), (151, 70), (151, 71), (151, 72), (151, 73)] (Or.inr ⟨_, rfl⟩) rf_151_28 rfl dX12_init_140 flX12_65 kt_151 (by decide) rfl rfl ?_
  refine z_aload C 144 0 rfl dX12_init_143 rfl ?_
  refine z_sipush C 147 (800) (by decide) dX12_init_144 rfl ?_
  refine z_newaI C 149 dX12_init_147 ac_int kt_169 (by decide) (by decide) (by decide) (Nat.le_of_ble_eq_true rfl) (Nat.le_of_ble_eq_true rfl) rfl ?_
  refine z_putR C 152 [(151, 30), (151, 31), (151, 32), (151, 33), (151, 34), (151, 35), (151, 52), (151, 53), (151, 54), (151, 55), (151, 56), (151, 57), (151, 58), (151, 59), (151, 65), (151, 66), (151, 67), (151, 68), (151, 69), (151, 70), (151, 71), (151, 72), (151, 73)] (Or.inr ⟨_, rfl⟩) rf_151_29 rfl dX12_init_149 flX12_68 kt_151 (by decide) rfl rfl ?_
  refine z_aload C 153 0 rfl dX12_init_152 rfl ?_
  refine z_bipush C 155 (90) (by decide) dX12_init_153 rfl ?_
  refine z_newaI C 157 dX12_init_155 ac_int kt_170 (by decide) (by decide) (by decide) (Nat.le_of_ble_eq_true rfl) (Nat.le_of_ble_eq_true rfl) rfl ?_
  refine z_putR C 160 [(151, 31), (151, 32), (151, 33), (151, 34), (151, 35), (151, 52), (151, 53), (151, 54), (151, 55), (151, 56), (151, 57), (151, 58), (151, 59), (151, 65), (151, 66), (151, 67), (151, 68), (151, 69), (151, 70), (151, 71), (151, 72), (151, 73)] (Or.inr ⟨_, rfl⟩) rf_151_30 rfl dX12_init_157 flX12_71 kt_151 (by decide) rfl rfl ?_
  refine z_aload C 161 0 rfl dX12_init_160 rfl ?_
  refine z_bipush C 163 (90) (by decide) dX12_init_161 rfl ?_
  refine z_newaI C 165 dX12_init_163 ac_int kt_171 (by decide) (by decide) (by decide) (Nat.le_of_ble_eq_true rfl) (Nat.le_of_ble_eq_true rfl) rfl ?_
  refine z_putR C 168 [(151, 32), (151, 33), (151, 34), (151, 35), (151, 52), (151, 53), (151, 54), (151, 55), (151, 56), (151, 57), (151, 58), (151, 59), (151, 65), (151, 66), (151, 67), (151, 68), (151, 69), (151, 70), (151, 71), (151, 72), (151, 73)] (Or.inr ⟨_, rfl⟩) rf_151_31 rfl dX12_init_165 flX12_74 kt_151 (by decide) rfl rfl ?_
  refine z_aload C 169 0 rfl dX12_init_168 rfl ?_
  refine z_bipush C 171 (70) (by decide) dX12_init_169 rfl ?_
  refine z_newaI C 173 dX12_init_171 ac_int kt_172 (by decide) (by decide) (by decide) (Nat.le_of_ble_eq_true rfl) (Nat.le_of_ble_eq_true rfl) rfl ?_
  refine z_putR C 176 [(151, 33), (151, 34), (151, 35), (151, 52), (151, 53), (151, 54), (151, 55), (151, 56), (151, 57), (151, 58), (151, 59), (151, 65), (151, 66), (151, 67), (151, 68), (151, 69), (151, 70), (151, 71), (151, 72), (151, 73)] (Or.inr ⟨_, rfl⟩) rf_151_32 rfl dX12_init_173 flX12_77 kt_151 (by decide) rfl rfl ?_
  refine z_aload C 177 0 rfl dX12_init_176 rfl ?_
  refine z_bipush C 179 (14) (by decide) dX12_init_177 rfl ?_
  refine z_newaI C 181 dX12_init_179 ac_int kt_173 (by decide) (by decide) (by decide) (Nat.le_of_ble_eq_true rfl) (Nat.le_of_ble_eq_true rfl) rfl ?_
  refine z_putR C 184 [(151, 34), (151, 35), (151, 52), (151, 53), (151, 54), (151, 55), (151, 56), (151, 57), (151, 58), (151, 59), (151, 65), (151, 66), (151, 67), (151, 68), (151, 69), (151, 70), (151, 71), (151, 72), (151, 73)] (Or.inr ⟨_, rfl⟩) rf_151_33 rfl dX12_init_181 flX12_80 kt_151 (by decide) rfl rfl ?_
  refine z_aload C 185 0 rfl dX12_init_184 rfl ?_
  refine z_bipush C 187 (14) (by decide) dX12_init_185 rfl ?_
  refine z_newaI C 189 dX12_init_187 ac_int kt_174 (by decide) (by decide) (by decide) (Nat.le_of_ble_eq_true rfl) (Nat.le_of_ble_eq_true rfl) rfl ?_
  refine z_putR C 192 [(151, 35), (151, 52), (151, 53), (151, 54), (151, 55), (151, 56), (151, 57), (151, 58), (151, 59), (151, 65), (151, 66), (151, 67), (151, 68), (151, 69), (151, 70), (151, 71), (151, 72), (151, 73)] (Or.inr ⟨_, rfl⟩) rf_151_34 rfl dX12_init_189 flX12_83 kt_151 (by decide) rfl rfl ?_
  refine z_aload C 193 0 rfl dX12_init_192 rfl ?_
  refine z_bipush C 195 (6) (by decide) dX12_init_193 rfl ?_
  refine z_newaL C 197 dX12_init_195 ac_long kt_175 (by decide) (by decide) (by decide) (Nat.le_of_ble_eq_true rfl) (Nat.le_of_ble_eq_true rfl) rfl ?_
  refine z_putR C 200 [(151, 52), (151, 53), (151, 54), (151, 55), (151, 56), (151, 57), (151, 58), (151, 59), (151, 65), (151, 66), (151, 67), (151, 68), (151, 69), (151, 70), (151, 71), (151, 72), (151, 73)] (Or.inr ⟨_, rfl⟩) rf_151_35 rfl dX12_init_197 flX12_86 kt_151 (by decide) rfl rfl ?_
  refine z_aload C 201 0 rfl dX12_init_200 rfl ?_
  refine z_bipush C 203 (8) (by decide) dX12_init_201 rfl ?_
  refine z_newaI C 205 dX12_init_203 ac_int kt_176 (by decide) (by decide) (by decide) (Nat.le_of_ble_eq_true rfl) (Nat.le_of_ble_eq_true rfl) rfl ?_
  refine z_putR C 208 [(151, 53), (151, 54), (151, 55), (151, 56), (151, 57), (151, 58), (151, 59), (151, 65), (151, 66), (151, 67), (151, 68), (151, 69), (151, 70), (151, 71), (151, 72), (151, 73)] (Or.inr ⟨_, rfl⟩) rf_151_52 rfl dX12_init_205 flX12_89 kt_151 (by decide) rfl rfl ?_
  refine z_aload C 209 0 rfl dX12_init_208 rfl ?_
  refine z_bipush C 211 (8) (by decide) dX12_init_209 rfl ?_
  refine z_newaI C 213 dX12_init_211 ac_int kt_177 (by decide) (by decide) (by decide) (Nat.le_of_ble_eq_true rfl) (Nat.le_of_ble_eq_true rfl) rfl ?_
  refine z_putR C 216 [(151, 54), (151, 55), (151, 56), (151, 57), (151, 58), (151, 59), (151, 65), (151, 66), (151, 67), (151, 68), (151, 69), (151, 70), (151, 71), (151, 72), (151, 73)] (Or.inr ⟨_, rfl⟩) rf_151_53 rfl dX12_init_213 flX12_92 kt_151 (by decide) rfl rfl ?_
  refine z_aload C 217 0 rfl dX12_init_216 rfl ?_
  refine z_bipush C 219 (40) (by decide) dX12_init_217 rfl ?_
  refine z_newaI C 221 dX12_init_219 ac_int kt_178 (by decide) (by decide) (by decide) (Nat.le_of_ble_eq_true rfl) (Nat.le_of_ble_eq_true rfl) rfl ?_
  refine z_putR C 224 [(151, 55), (151, 56), (151, 57), (151, 58), (151, 59), (151, 65), (151, 66), (151, 67), (151, 68), (151, 69), (151, 70), (151, 71), (151, 72), (151, 73)] (Or.inr ⟨_, rfl⟩) rf_151_54 rfl dX12_init_221 flX12_95 kt_151 (by decide) rfl rfl ?_
  refine z_aload C 225 0 rfl dX12_init_224 rfl ?_
  refine z_bipush C 227 (40) (by decide) dX12_init_225 rfl ?_
  refine z_newaI C 229 dX12_init_227 ac_int kt_179 (by decide) (by decide) (by decide) (Nat.le_of_ble_eq_true rfl) (Nat.le_of_ble_eq_true rfl) rfl ?_
  refine z_putR C 232 [(151, 56), (151, 57), (151, 58), (151, 59), (151, 65), (151, 66), (151, 67), (151, 68), (151, 69), (151, 70), (151, 71), (151, 72), (151, 73)] (Or.inr ⟨_, rfl⟩) rf_151_55 rfl dX12_init_229 flX12_98 kt_151 (by decide) rfl rfl ?_
  refine z_aload C 233 0 rfl dX12_init_232 rfl ?_
  refine z_bipush C 235 (40) (by decide) dX12_init_233 rfl ?_
  refine z_newaI C 237 dX12_init_235 ac_int kt_180 (by decide) (by decide) (by decide) (Nat.le_of_ble_eq_true rfl) (Nat.le_of_ble_eq_true rfl) rfl ?_
  refine z_putR C 240 [(151, 57), (151, 58), (151, 59), (151, 65), (151, 66), (151, 67), (151, 68), (151, 69), (151, 70), (151, 71), (151, 72), (151, 73)] (Or.inr ⟨_, rfl⟩) rf_151_56 rfl dX12_init_237 flX12_101 kt_151 (by decide) rfl rfl ?_
  refine z_aload C 241 0 rfl dX12_init_240 rfl ?_
  refine z_bipush C 243 (40) (by decide) dX12_init_241 rfl ?_
  refine z_newaI C 245 dX12_init_243 ac_int kt_181 (by decide) (by decide) (by decide) (Nat.le_of_ble_eq_true rfl) (Nat.le_of_ble_eq_true rfl) rfl ?_
  refine z_putR C 248 [(151, 58), (151, 59), (151, 65), (151, 66), (151, 67), (151, 68), (151, 69), (151, 70), (151, 71), (151, 72), (151, 73)] (Or.inr ⟨_, rfl⟩) rf_151_57 rfl dX12_init_245 flX12_104 kt_151 (by decide) rfl rfl ?_
  refine z_aload C 249 0 rfl dX12_init_248 rfl ?_
  refine z_bipush C 251 (40) (by decide) dX12_init_249 rfl ?_
  refine z_newaI C 253 dX12_init_251 ac_int kt_182 (by decide) (by decide) (by decide) (Nat.le_of_ble_eq_true rfl) (Nat.le_of_ble_eq_true rfl) rfl ?_
  refine z_putR C 256 [(151, 59), (151, 65), (151, 66), (151, 67), (151, 68), (151, 69), (151, 70), (151, 71), (151, 72), (151, 73)] (Or.inr ⟨_, rfl⟩) rf_151_58 rfl dX12_init_253 flX12_107 kt_151 (by decide) rfl rfl ?_
  refine z_aload C 257 0 rfl dX12_init_256 rfl ?_
  refine z_bipush C 259 (40) (by decide) dX12_init_257 rfl ?_
  refine z_newaI C 261 dX12_init_259 ac_int kt_183 (by decide) (by decide) (by decide) (Nat.le_of_ble_eq_true rfl) (Nat.le_of_ble_eq_true rfl) rfl ?_
  refine z_putR C 264 [(151, 65), (151, 66), (151, 67), (151, 68), (151, 69), (151, 70), (151, 71), (151, 72), (151, 73)] (Or.inr ⟨_, rfl⟩) rf_151_59 rfl dX12_init_261 flX12_110 kt_151 (by decide) rfl rfl ?_
  refine z_aload C 265 0 rfl dX12_init_264 rfl ?_
  refine z_bipush C 267 (40) (by decide) dX12_init_265 rfl ?_
  refine z_newaZ C 269 dX12_init_267 ac_boolean kt_184 (by decide) (by decide) (by decide) (Nat.le_of_ble_eq_true rfl) (Nat.le_of_ble_eq_true rfl) rfl ?_
  refine z_putR C 272 [(151, 66), (151, 67), (151, 68), (151, 69), (151, 70), (151, 71), (151, 72), (151, 73)] (Or.inr ⟨_, rfl⟩) rf_151_65 rfl dX12_init_269 flX12_113 kt_151 (by decide) rfl rfl ?_
  refine z_aload C 273 0 rfl dX12_init_272 rfl ?_
  refine z_iconst C 274 (3) (by decide) dX12_init_273 rfl ?_
  refine z_newaI C 276 dX12_init_274 ac_int kt_185 (by decide) (by decide) (by decide) (Nat.le_of_ble_eq_true rfl) (Nat.le_of_ble_eq_true rfl) rfl ?_
  refine z_putR C 279 [(151, 67), (151, 68), (151, 69), (151, 70), (151, 71), (151, 72), (151, 73)] (Or.inr ⟨_, rfl⟩) rf_151_66 rfl dX12_init_276 flX12_116 kt_151 (by decide) rfl rfl ?_
  refine z_aload C 280 0 rfl dX12_init_279 rfl ?_
  refine z_iconst C 281 (3) (by decide) dX12_init_280 rfl ?_
  refine z_newaI C 283 dX12_init_281 ac_int kt_186 (by decide) (by decide) (by decide) (Nat.le_of_ble_eq_true rfl) (Nat.le_of_ble_eq_true rfl) rfl ?_
  refine z_putR C 286 [(151, 68), (151, 69), (151, 70), (151, 71), (151, 72), (151, 73)] (Or.inr ⟨_, rfl⟩) rf_151_67 rfl dX12_init_283 flX12_119 kt_151 (by decide) rfl rfl ?_
  refine z_aload C 287 0 rfl dX12_init_286 rfl ?_
  refine z_bipush C 289 (120) (by decide) dX12_init_287 rfl ?_
  refine z_newaI C 291 dX12_init_289 ac_int kt_187 (by decide) (by decide) (by decide) (Nat.le_of_ble_eq_true rfl) (Nat.le_of_ble_eq_true rfl) rfl ?_
  refine z_putR C 294 [(151, 69), (151, 70), (151, 71), (151, 72), (151, 73)] (Or.inr ⟨_, rfl⟩) rf_151_68 rfl dX12_init_291 flX12_122 kt_151 (by decide) rfl rfl ?_
  refine z_aload C 295 0 rfl dX12_init_294 rfl ?_
  refine z_bipush C 297 (120) (by decide) dX12_init_295 rfl ?_
  refine z_newaI C 299 dX12_init_297 ac_int kt_188 (by decide) (by decide) (by decide) (Nat.le_of_ble_eq_true rfl) (Nat.le_of_ble_eq_true rfl) rfl ?_
  refine z_putR C 302 [(151, 70), (151, 71), (151, 72), (151, 73)] (Or.inr ⟨_, rfl⟩) rf_151_69 rfl dX12_init_299 flX12_125 kt_151 (by decide) rfl rfl ?_
  refine z_aload C 303 0 rfl dX12_init_302 rfl ?_
  refine z_bipush C 305 (120) (by decide) dX12_init_303 rfl ?_
  refine z_newaI C 307 dX12_init_305 ac_int kt_189 (by decide) (by decide) (by decide) (Nat.le_of_ble_eq_true rfl) (Nat.le_of_ble_eq_true rfl) rfl ?_
  refine z_putR C 310 [(151, 71), (151, 72), (151, 73)] (Or.inr ⟨_, rfl⟩) rf_151_70 rfl dX12_init_307 flX12_128 kt_151 (by decide) rfl rfl ?_
  refine z_aload C 311 0 rfl dX12_init_310 rfl ?_
  refine z_bipush C 313 (120) (by decide) dX12_init_311 rfl ?_
  refine z_newaI C 315 dX12_init_313 ac_int kt_190 (by decide) (by decide) (by decide) (Nat.le_of_ble_eq_true rfl) (Nat.le_of_ble_eq_true rfl) rfl ?_
  refine z_putR C 318 [(151, 72), (151, 73)] (Or.inr ⟨_, rfl⟩) rf_151_71 rfl dX12_init_315 flX12_131 kt_151 (by decide) rfl rfl ?_
  refine z_aload C 319 0 rfl dX12_init_318 rfl ?_
  refine z_bipush C 321 (120) (by decide) dX12_init_319 rfl ?_
  refine z_newaI C 323 dX12_init_321 ac_int kt_191 (by decide) (by decide) (by decide) (Nat.le_of_ble_eq_true rfl) (Nat.le_of_ble_eq_true rfl) rfl ?_
  refine z_putR C 326 [(151, 73)] (Or.inr ⟨_, rfl⟩) rf_151_72 rfl dX12_init_323 flX12_134 kt_151 (by decide) rfl rfl ?_
  refine z_aload C 327 0 rfl dX12_init_326 rfl ?_
  refine z_bipush C 329 (120) (by decide) dX12_init_327 rfl ?_
  refine z_newaI C 331 dX12_init_329 ac_int kt_192 (by decide) (by decide) (by decide) (Nat.le_of_ble_eq_true rfl) (Nat.le_of_ble_eq_true rfl) rfl ?_
  refine z_putR C 334 [] (Or.inr ⟨_, rfl⟩) rf_151_73 rfl dX12_init_331 flX12_137 kt_151 (by decide) rfl rfl ?_
  exact Br 334 _ _ _ _ HO (imp_f_X12_tail C2 _ Rr)
