theorem dX0_init_0 : decode cX0_init 0 = .ok (.aload_n 0, 1) := by decide +kernel
theorem dX0_init_1 : decode cX0_init 1 = .ok (.invokespecial 3, 3) := by decide +kernel
theorem dX0_init_4 : decode cX0_init 4 = .ok (.aload_n 0, 1) := by decide +kernel
theorem dX0_init_5 : decode cX0_init 5 = .ok (.bipush 8, 2) := by decide +kernel
theorem dX0_init_7 : decode cX0_init 7 = .ok (.newarray .int, 2) := by decide +kernel
theorem dX0_init_9 : decode cX0_init 9 = .ok (.putfield 9, 3) := by decide +kernel
theorem dX0_init_12 : decode cX0_init 12 = .ok (.aload_n 0, 1) := by decide +kernel
theorem dX0_init_13 : decode cX0_init 13 = .ok (.aload_n 1, 1) := by decide +kernel
theorem dX0_init_14 : decode cX0_init 14 = .ok (.putfield 15, 3) := by decide +kernel
theorem dX0_init_17 : decode cX0_init 17 = .ok (.aload_n 0, 1) := by decide +kernel
theorem dX0_init_18 : decode cX0_init 18 = .ok (.aload_n 2, 1) := by decide +kernel
theorem dX0_init_19 : decode cX0_init 19 = .ok (.putfield 19, 3) := by decide +kernel
theorem dX0_init_22 : decode cX0_init 22 = .ok (.return_, 1) := by decide +kernel
theorem dX0_develop_0 : decode cX0_develop 0 = .ok (.aload_n 0, 1) := by decide +kernel
theorem dX0_develop_1 : decode cX0_develop 1 = .ok (.aload_n 0, 1) := by decide +kernel
theorem dX0_develop_2 : decode cX0_develop 2 = .ok (.getfield 9, 3) := by decide +kernel
theorem dX0_develop_5 : decode cX0_develop 5 = .ok (.iload_n 1, 1) := by decide +kernel
theorem dX0_develop_6 : decode cX0_develop 6 = .ok (.iload_n 2, 1) := by decide +kernel
theorem dX0_develop_7 : decode cX0_develop 7 = .ok (.iload_n 3, 1) := by decide +kernel
theorem dX0_develop_8 : decode cX0_develop 8 = .ok (.iload 4, 2) := by decide +kernel
theorem dX0_develop_10 : decode cX0_develop 10 = .ok (.invokevirtual 23, 3) := by decide +kernel
theorem dX0_develop_13 : decode cX0_develop 13 = .ok (.aload_n 0, 1) := by decide +kernel
theorem dX0_develop_14 : decode cX0_develop 14 = .ok (.getfield 9, 3) := by decide +kernel
theorem dX0_develop_17 : decode cX0_develop 17 = .ok (.areturn, 1) := by decide +kernel
theorem dX0_developInto_0 : decode cX0_developInto 0 = .ok (.iconst 0, 1) := by decide +kernel
theorem dX0_developInto_1 : decode cX0_developInto 1 = .ok (.aload_n 0, 1) := by decide +kernel
theorem dX0_developInto_2 : decode cX0_developInto 2 = .ok (.getfield 15, 3) := by decide +kernel
theorem dX0_developInto_5 : decode cX0_developInto 5 = .ok (.iload 5, 2) := by decide +kernel
theorem dX0_developInto_7 : decode cX0_developInto 7 = .ok (.invokevirtual 27, 3) := by decide +kernel
theorem dX0_developInto_10 : decode cX0_developInto 10 = .ok (.invokestatic 33, 3) := by decide +kernel
theorem dX0_developInto_13 : decode cX0_developInto 13 = .ok (.iconst 1, 1) := by decide +kernel
theorem dX0_developInto_14 : decode cX0_developInto 14 = .ok (.iadd, 1) := by decide +kernel
theorem dX0_developInto_15 : decode cX0_developInto 15 = .ok (.istore 6, 2) := by decide +kernel
theorem dX0_developInto_17 : decode cX0_developInto 17 = .ok (.iconst 0, 1) := by decide +kernel
theorem dX0_developInto_18 : decode cX0_developInto 18 = .ok (.istore 7, 2) := by decide +kernel
theorem dX0_developInto_20 : decode cX0_developInto 20 = .ok (.iload 7, 2) := by decide +kernel
theorem dX0_developInto_22 : decode cX0_developInto 22 = .ok (.bipush 8, 2) := by decide +kernel
theorem dX0_developInto_24 : decode cX0_developInto 24 = .ok (.if_icmp .ge 59, 3) := by decide +kernel
theorem dX0_developInto_27 : decode cX0_developInto 27 = .ok (.iload 7, 2) := by decide +kernel
theorem dX0_developInto_29 : decode cX0_developInto 29 = .ok (.aload_n 1, 1) := by decide +kernel
theorem dX0_developInto_30 : decode cX0_developInto 30 = .ok (.arraylength, 1) := by decide +kernel
theorem dX0_developInto_31 : decode cX0_developInto 31 = .ok (.if_icmp .ge 52, 3) := by decide +kernel
theorem dX0_developInto_34 : decode cX0_developInto 34 = .ok (.iload 7, 2) := by decide +kernel
theorem dX0_developInto_36 : decode cX0_developInto 36 = .ok (.aload_n 0, 1) := by decide +kernel
theorem dX0_developInto_37 : decode cX0_developInto 37 = .ok (.getfield 15, 3) := by decide +kernel
theorem dX0_developInto_40 : decode cX0_developInto 40 = .ok (.getfield 39, 3) := by decide +kernel
theorem dX0_developInto_43 : decode cX0_developInto 43 = .ok (.if_icmp .ge 19, 3) := by decide +kernel
theorem dX0_developInto_46 : decode cX0_developInto 46 = .ok (.aload_n 0, 1) := by decide +kernel
theorem dX0_developInto_47 : decode cX0_developInto 47 = .ok (.getfield 15, 3) := by decide +kernel
theorem dX0_developInto_50 : decode cX0_developInto 50 = .ok (.iload_n 2, 1) := by decide +kernel
theorem dX0_developInto_51 : decode cX0_developInto 51 = .ok (.iload_n 3, 1) := by decide +kernel
theorem dX0_developInto_52 : decode cX0_developInto 52 = .ok (.iload 4, 2) := by decide +kernel
theorem dX0_developInto_54 : decode cX0_developInto 54 = .ok (.iload 7, 2) := by decide +kernel
theorem dX0_developInto_56 : decode cX0_developInto 56 = .ok (.invokevirtual 43, 3) := by decide +kernel
theorem dX0_developInto_59 : decode cX0_developInto 59 = .ok (.goto 4, 3) := by decide +kernel
theorem dX0_developInto_62 : decode cX0_developInto 62 = .ok (.iconst 0, 1) := by decide +kernel
theorem dX0_developInto_63 : decode cX0_developInto 63 = .ok (.istore 8, 2) := by decide +kernel
theorem dX0_developInto_65 : decode cX0_developInto 65 = .ok (.aload_n 1, 1) := by decide +kernel
theorem dX0_developInto_66 : decode cX0_developInto 66 = .ok (.iload 7, 2) := by decide +kernel
theorem dX0_developInto_68 : decode cX0_developInto 68 = .ok (.iload 8, 2) := by decide +kernel
theorem dX0_developInto_70 : decode cX0_developInto 70 = .ok (.iload 8, 2) := by decide +kernel
theorem dX0_developInto_72 : decode cX0_developInto 72 = .ok (.iload 6, 2) := by decide +kernel
theorem dX0_developInto_74 : decode cX0_developInto 74 = .ok (.irem, 1) := by decide +kernel
theorem dX0_developInto_75 : decode cX0_developInto 75 = .ok (.isub, 1) := by decide +kernel
theorem dX0_developInto_76 : decode cX0_developInto 76 = .ok (.iastore, 1) := by decide +kernel
theorem dX0_developInto_77 : decode cX0_developInto 77 = .ok (.iinc 7 1, 3) := by decide +kernel
theorem dX0_developInto_80 : decode cX0_developInto 80 = .ok (.goto (-60), 3) := by decide +kernel
theorem dX0_developInto_83 : decode cX0_developInto 83 = .ok (.return_, 1) := by decide +kernel
theorem dX0_shown_0 : decode cX0_shown 0 = .ok (.aload_n 0, 1) := by decide +kernel
theorem dX0_shown_1 : decode cX0_shown 1 = .ok (.aload_n 0, 1) := by decide +kernel
theorem dX0_shown_2 : decode cX0_shown 2 = .ok (.getfield 9, 3) := by decide +kernel
theorem dX0_shown_5 : decode cX0_shown 5 = .ok (.iload_n 1, 1) := by decide +kernel
theorem dX0_shown_6 : decode cX0_shown 6 = .ok (.iload_n 2, 1) := by decide +kernel
theorem dX0_shown_7 : decode cX0_shown 7 = .ok (.iload_n 3, 1) := by decide +kernel
theorem dX0_shown_8 : decode cX0_shown 8 = .ok (.iload 4, 2) := by decide +kernel
theorem dX0_shown_10 : decode cX0_shown 10 = .ok (.invokevirtual 23, 3) := by decide +kernel
theorem dX0_shown_13 : decode cX0_shown 13 = .ok (.aload_n 0, 1) := by decide +kernel
theorem dX0_shown_14 : decode cX0_shown 14 = .ok (.getfield 19, 3) := by decide +kernel
theorem dX0_shown_17 : decode cX0_shown 17 = .ok (.aload_n 0, 1) := by decide +kernel
theorem dX0_shown_18 : decode cX0_shown 18 = .ok (.getfield 9, 3) := by decide +kernel
theorem dX0_shown_21 : decode cX0_shown 21 = .ok (.aload_n 0, 1) := by decide +kernel
theorem dX0_shown_22 : decode cX0_shown 22 = .ok (.getfield 15, 3) := by decide +kernel
theorem dX0_shown_25 : decode cX0_shown 25 = .ok (.getfield 39, 3) := by decide +kernel
theorem dX0_shown_28 : decode cX0_shown 28 = .ok (.invokevirtual 47, 3) := by decide +kernel
theorem dX0_shown_31 : decode cX0_shown 31 = .ok (.ireturn, 1) := by decide +kernel
theorem dX0_caughtPart_0 : decode cX0_caughtPart 0 = .ok (.aload_n 0, 1) := by decide +kernel
theorem dX0_caughtPart_1 : decode cX0_caughtPart 1 = .ok (.getfield 15, 3) := by decide +kernel
theorem dX0_caughtPart_4 : decode cX0_caughtPart 4 = .ok (.getfield 53, 3) := by decide +kernel
theorem dX0_caughtPart_7 : decode cX0_caughtPart 7 = .ok (.aload_n 0, 1) := by decide +kernel
theorem dX0_caughtPart_8 : decode cX0_caughtPart 8 = .ok (.getfield 15, 3) := by decide +kernel
theorem dX0_caughtPart_11 : decode cX0_caughtPart 11 = .ok (.getfield 53, 3) := by decide +kernel
theorem dX0_caughtPart_14 : decode cX0_caughtPart 14 = .ok (.iconst 1, 1) := by decide +kernel
theorem dX0_caughtPart_15 : decode cX0_caughtPart 15 = .ok (.isub, 1) := by decide +kernel
theorem dX0_caughtPart_16 : decode cX0_caughtPart 16 = .ok (.imul, 1) := by decide +kernel
theorem dX0_caughtPart_17 : decode cX0_caughtPart 17 = .ok (.iconst 2, 1) := by decide +kernel
theorem dX0_caughtPart_18 : decode cX0_caughtPart 18 = .ok (.idiv, 1) := by decide +kernel
theorem dX0_caughtPart_19 : decode cX0_caughtPart 19 = .ok (.bipush 9, 2) := by decide +kernel
theorem dX0_caughtPart_21 : decode cX0_caughtPart 21 = .ok (.imul, 1) := by decide +kernel
theorem dX0_caughtPart_22 : decode cX0_caughtPart 22 = .ok (.istore_n 3, 1) := by decide +kernel
theorem dX0_caughtPart_23 : decode cX0_caughtPart 23 = .ok (.iconst 0, 1) := by decide +kernel
theorem dX0_caughtPart_24 : decode cX0_caughtPart 24 = .ok (.istore 4, 2) := by decide +kernel
theorem dX0_caughtPart_26 : decode cX0_caughtPart 26 = .ok (.iconst 0, 1) := by decide +kernel
theorem dX0_caughtPart_27 : decode cX0_caughtPart 27 = .ok (.istore 5, 2) := by decide +kernel
theorem dX0_caughtPart_29 : decode cX0_caughtPart 29 = .ok (.iload 5, 2) := by decide +kernel
theorem dX0_caughtPart_31 : decode cX0_caughtPart 31 = .ok (.aload_n 0, 1) := by decide +kernel
theorem dX0_caughtPart_32 : decode cX0_caughtPart 32 = .ok (.getfield 15, 3) := by decide +kernel
theorem dX0_caughtPart_35 : decode cX0_caughtPart 35 = .ok (.getfield 53, 3) := by decide +kernel
theorem dX0_caughtPart_38 : decode cX0_caughtPart 38 = .ok (.if_icmp .ge 47, 3) := by decide +kernel
theorem dX0_caughtPart_41 : decode cX0_caughtPart 41 = .ok (.iload 5, 2) := by decide +kernel
theorem dX0_caughtPart_43 : decode cX0_caughtPart 43 = .ok (.iconst 1, 1) := by decide +kernel
theorem dX0_caughtPart_44 : decode cX0_caughtPart 44 = .ok (.iadd, 1) := by decide +kernel
theorem dX0_caughtPart_45 : decode cX0_caughtPart 45 = .ok (.istore 6, 2) := by decide +kernel
theorem dX0_caughtPart_47 : decode cX0_caughtPart 47 = .ok (.iload 6, 2) := by decide +kernel
theorem dX0_caughtPart_49 : decode cX0_caughtPart 49 = .ok (.aload_n 0, 1) := by decide +kernel
theorem dX0_caughtPart_50 : decode cX0_caughtPart 50 = .ok (.getfield 15, 3) := by decide +kernel
theorem dX0_caughtPart_53 : decode cX0_caughtPart 53 = .ok (.getfield 53, 3) := by decide +kernel
theorem dX0_caughtPart_56 : decode cX0_caughtPart 56 = .ok (.if_icmp .ge 23, 3) := by decide +kernel
theorem dX0_caughtPart_59 : decode cX0_caughtPart 59 = .ok (.iload 4, 2) := by decide +kernel
theorem dX0_caughtPart_61 : decode cX0_caughtPart 61 = .ok (.aload_n 0, 1) := by decide +kernel
theorem dX0_caughtPart_62 : decode cX0_caughtPart 62 = .ok (.iload 5, 2) := by decide +kernel
theorem dX0_caughtPart_64 : decode cX0_caughtPart 64 = .ok (.iload 6, 2) := by decide +kernel
theorem dX0_caughtPart_66 : decode cX0_caughtPart 66 = .ok (.iload_n 1, 1) := by decide +kernel
theorem dX0_caughtPart_67 : decode cX0_caughtPart 67 = .ok (.invokevirtual 56, 3) := by decide +kernel
theorem dX0_caughtPart_70 : decode cX0_caughtPart 70 = .ok (.iadd, 1) := by decide +kernel
theorem dX0_caughtPart_71 : decode cX0_caughtPart 71 = .ok (.istore 4, 2) := by decide +kernel
theorem dX0_caughtPart_73 : decode cX0_caughtPart 73 = .ok (.iinc 6 1, 3) := by decide +kernel
theorem dX0_caughtPart_76 : decode cX0_caughtPart 76 = .ok (.goto (-29), 3) := by decide +kernel
theorem dX0_caughtPart_79 : decode cX0_caughtPart 79 = .ok (.iinc 5 1, 3) := by decide +kernel
theorem dX0_caughtPart_82 : decode cX0_caughtPart 82 = .ok (.goto (-53), 3) := by decide +kernel
theorem dX0_caughtPart_85 : decode cX0_caughtPart 85 = .ok (.iload_n 3, 1) := by decide +kernel
theorem dX0_caughtPart_86 : decode cX0_caughtPart 86 = .ok (.iload 4, 2) := by decide +kernel
theorem dX0_caughtPart_88 : decode cX0_caughtPart 88 = .ok (.invokestatic 60, 3) := by decide +kernel
theorem dX0_caughtPart_91 : decode cX0_caughtPart 91 = .ok (.istore 5, 2) := by decide +kernel
theorem dX0_caughtPart_93 : decode cX0_caughtPart 93 = .ok (.iload 5, 2) := by decide +kernel
theorem dX0_caughtPart_95 : decode cX0_caughtPart 95 = .ok (.ifCond .ne 5, 3) := by decide +kernel
theorem dX0_caughtPart_98 : decode cX0_caughtPart 98 = .ok (.iconst (-1), 1) := by decide +kernel
theorem dX0_caughtPart_99 : decode cX0_caughtPart 99 = .ok (.ireturn, 1) := by decide +kernel
theorem dX0_caughtPart_100 : decode cX0_caughtPart 100 = .ok (.iload_n 2, 1) := by decide +kernel
theorem dX0_caughtPart_101 : decode cX0_caughtPart 101 = .ok (.ifCond .ne 8, 3) := by decide +kernel
theorem dX0_caughtPart_104 : decode cX0_caughtPart 104 = .ok (.iload 4, 2) := by decide +kernel
theorem dX0_caughtPart_106 : decode cX0_caughtPart 106 = .ok (.goto 4, 3) := by decide +kernel
theorem dX0_caughtPart_109 : decode cX0_caughtPart 109 = .ok (.iload_n 3, 1) := by decide +kernel
theorem dX0_caughtPart_110 : decode cX0_caughtPart 110 = .ok (.iload 5, 2) := by decide +kernel
theorem dX0_caughtPart_112 : decode cX0_caughtPart 112 = .ok (.idiv, 1) := by decide +kernel
theorem dX0_caughtPart_113 : decode cX0_caughtPart 113 = .ok (.ireturn, 1) := by decide +kernel
theorem dX0_caughtOf_0 : decode cX0_caughtOf 0 = .ok (.iconst 0, 1) := by decide +kernel
theorem dX0_caughtOf_1 : decode cX0_caughtOf 1 = .ok (.istore 4, 2) := by decide +kernel
theorem dX0_caughtOf_3 : decode cX0_caughtOf 3 = .ok (.iconst 1, 1) := by decide +kernel
theorem dX0_caughtOf_4 : decode cX0_caughtOf 4 = .ok (.istore 5, 2) := by decide +kernel
theorem dX0_caughtOf_6 : decode cX0_caughtOf 6 = .ok (.iload 5, 2) := by decide +kernel
theorem dX0_caughtOf_8 : decode cX0_caughtOf 8 = .ok (.bipush 10, 2) := by decide +kernel
theorem dX0_caughtOf_10 : decode cX0_caughtOf 10 = .ok (.if_icmp .ge 24, 3) := by decide +kernel
theorem dX0_caughtOf_13 : decode cX0_caughtOf 13 = .ok (.aload_n 0, 1) := by decide +kernel
theorem dX0_caughtOf_14 : decode cX0_caughtOf 14 = .ok (.iload_n 1, 1) := by decide +kernel
theorem dX0_caughtOf_15 : decode cX0_caughtOf 15 = .ok (.iload_n 2, 1) := by decide +kernel
theorem dX0_caughtOf_16 : decode cX0_caughtOf 16 = .ok (.iload 5, 2) := by decide +kernel
theorem dX0_caughtOf_18 : decode cX0_caughtOf 18 = .ok (.iload_n 3, 1) := by decide +kernel
theorem dX0_caughtOf_19 : decode cX0_caughtOf 19 = .ok (.invokevirtual 63, 3) := by decide +kernel
theorem dX0_caughtOf_22 : decode cX0_caughtOf 22 = .ok (.ifCond .eq 6, 3) := by decide +kernel
theorem dX0_caughtOf_25 : decode cX0_caughtOf 25 = .ok (.iinc 4 1, 3) := by decide +kernel
theorem dX0_caughtOf_28 : decode cX0_caughtOf 28 = .ok (.iinc 5 1, 3) := by decide +kernel
theorem dX0_caughtOf_31 : decode cX0_caughtOf 31 = .ok (.goto (-25), 3) := by decide +kernel
theorem dX0_caughtOf_34 : decode cX0_caughtOf 34 = .ok (.iload 4, 2) := by decide +kernel
theorem dX0_caughtOf_36 : decode cX0_caughtOf 36 = .ok (.ireturn, 1) := by decide +kernel
theorem dX0_commonDivisor_0 : decode cX0_commonDivisor 0 = .ok (.iload_n 0, 1) := by decide +kernel
theorem dX0_commonDivisor_1 : decode cX0_commonDivisor 1 = .ok (.istore_n 2, 1) := by decide +kernel
theorem dX0_commonDivisor_2 : decode cX0_commonDivisor 2 = .ok (.iload_n 1, 1) := by decide +kernel
theorem dX0_commonDivisor_3 : decode cX0_commonDivisor 3 = .ok (.istore_n 3, 1) := by decide +kernel
theorem dX0_commonDivisor_4 : decode cX0_commonDivisor 4 = .ok (.iconst 0, 1) := by decide +kernel
theorem dX0_commonDivisor_5 : decode cX0_commonDivisor 5 = .ok (.istore 4, 2) := by decide +kernel
theorem dX0_commonDivisor_7 : decode cX0_commonDivisor 7 = .ok (.iload 4, 2) := by decide +kernel
theorem dX0_commonDivisor_9 : decode cX0_commonDivisor 9 = .ok (.sipush 10000, 3) := by decide +kernel
theorem dX0_commonDivisor_12 : decode cX0_commonDivisor 12 = .ok (.if_icmp .ge 23, 3) := by decide +kernel
theorem dX0_commonDivisor_15 : decode cX0_commonDivisor 15 = .ok (.iload_n 3, 1) := by decide +kernel
theorem dX0_commonDivisor_16 : decode cX0_commonDivisor 16 = .ok (.ifCond .eq 19, 3) := by decide +kernel
theorem dX0_commonDivisor_19 : decode cX0_commonDivisor 19 = .ok (.iload_n 2, 1) := by decide +kernel
theorem dX0_commonDivisor_20 : decode cX0_commonDivisor 20 = .ok (.iload_n 3, 1) := by decide +kernel
theorem dX0_commonDivisor_21 : decode cX0_commonDivisor 21 = .ok (.irem, 1) := by decide +kernel
theorem dX0_commonDivisor_22 : decode cX0_commonDivisor 22 = .ok (.istore 5, 2) := by decide +kernel
theorem dX0_commonDivisor_24 : decode cX0_commonDivisor 24 = .ok (.iload_n 3, 1) := by decide +kernel
theorem dX0_commonDivisor_25 : decode cX0_commonDivisor 25 = .ok (.istore_n 2, 1) := by decide +kernel
theorem dX0_commonDivisor_26 : decode cX0_commonDivisor 26 = .ok (.iload 5, 2) := by decide +kernel
theorem dX0_commonDivisor_28 : decode cX0_commonDivisor 28 = .ok (.istore_n 3, 1) := by decide +kernel
theorem dX0_commonDivisor_29 : decode cX0_commonDivisor 29 = .ok (.iinc 4 1, 3) := by decide +kernel
theorem dX0_commonDivisor_32 : decode cX0_commonDivisor 32 = .ok (.goto (-25), 3) := by decide +kernel
theorem dX0_commonDivisor_35 : decode cX0_commonDivisor 35 = .ok (.iload_n 2, 1) := by decide +kernel
theorem dX0_commonDivisor_36 : decode cX0_commonDivisor 36 = .ok (.ireturn, 1) := by decide +kernel
theorem dX1_init_0 : decode cX1_init 0 = .ok (.aload_n 0, 1) := by decide +kernel
theorem dX1_init_1 : decode cX1_init 1 = .ok (.invokespecial 3, 3) := by decide +kernel
theorem dX1_init_4 : decode cX1_init 4 = .ok (.aload_n 0, 1) := by decide +kernel
theorem dX1_init_5 : decode cX1_init 5 = .ok (.bipush 16, 2) := by decide +kernel
theorem dX1_init_7 : decode cX1_init 7 = .ok (.bipush 8, 2) := by decide +kernel
theorem dX1_init_9 : decode cX1_init 9 = .ok (.multianewarray 9 2, 4) := by decide +kernel
theorem dX1_init_13 : decode cX1_init 13 = .ok (.putfield 11, 3) := by decide +kernel
theorem dX1_init_16 : decode cX1_init 16 = .ok (.aload_n 0, 1) := by decide +kernel
theorem dX1_init_17 : decode cX1_init 17 = .ok (.bipush 16, 2) := by decide +kernel
theorem dX1_init_19 : decode cX1_init 19 = .ok (.bipush 8, 2) := by decide +kernel
theorem dX1_init_21 : decode cX1_init 21 = .ok (.multianewarray 9 2, 4) := by decide +kernel
theorem dX1_init_25 : decode cX1_init 25 = .ok (.putfield 16, 3) := by decide +kernel
theorem dX1_init_28 : decode cX1_init 28 = .ok (.aload_n 0, 1) := by decide +kernel
theorem dX1_init_29 : decode cX1_init 29 = .ok (.bipush 8, 2) := by decide +kernel
theorem dX1_init_31 : decode cX1_init 31 = .ok (.newarray .int, 2) := by decide +kernel
theorem dX1_init_33 : decode cX1_init 33 = .ok (.putfield 19, 3) := by decide +kernel
theorem dX1_init_36 : decode cX1_init 36 = .ok (.aload_n 0, 1) := by decide +kernel
theorem dX1_init_37 : decode cX1_init 37 = .ok (.iconst 0, 1) := by decide +kernel
theorem dX1_init_38 : decode cX1_init 38 = .ok (.putfield 23, 3) := by decide +kernel
theorem dX1_init_41 : decode cX1_init 41 = .ok (.aload_n 0, 1) := by decide +kernel
theorem dX1_init_42 : decode cX1_init 42 = .ok (.iconst 0, 1) := by decide +kernel
theorem dX1_init_43 : decode cX1_init 43 = .ok (.putfield 27, 3) := by decide +kernel
theorem dX1_init_46 : decode cX1_init 46 = .ok (.aload_n 0, 1) := by decide +kernel
theorem dX1_init_47 : decode cX1_init 47 = .ok (.aload_n 1, 1) := by decide +kernel
theorem dX1_init_48 : decode cX1_init 48 = .ok (.putfield 30, 3) := by decide +kernel
theorem dX1_init_51 : decode cX1_init 51 = .ok (.aload_n 0, 1) := by decide +kernel
theorem dX1_init_52 : decode cX1_init 52 = .ok (.aload_n 2, 1) := by decide +kernel
theorem dX1_init_53 : decode cX1_init 53 = .ok (.putfield 34, 3) := by decide +kernel
theorem dX1_init_56 : decode cX1_init 56 = .ok (.return_, 1) := by decide +kernel
theorem dX1_open_0 : decode cX1_open 0 = .ok (.aload_n 0, 1) := by decide +kernel
theorem dX1_open_1 : decode cX1_open 1 = .ok (.iload_n 1, 1) := by decide +kernel
theorem dX1_open_2 : decode cX1_open 2 = .ok (.putfield 23, 3) := by decide +kernel
theorem dX1_open_5 : decode cX1_open 5 = .ok (.aload_n 0, 1) := by decide +kernel
theorem dX1_open_6 : decode cX1_open 6 = .ok (.iload_n 2, 1) := by decide +kernel
theorem dX1_open_7 : decode cX1_open 7 = .ok (.putfield 27, 3) := by decide +kernel
theorem dX1_open_10 : decode cX1_open 10 = .ok (.iconst 0, 1) := by decide +kernel
theorem dX1_open_11 : decode cX1_open 11 = .ok (.istore_n 3, 1) := by decide +kernel
theorem dX1_open_12 : decode cX1_open 12 = .ok (.iload_n 3, 1) := by decide +kernel
theorem dX1_open_13 : decode cX1_open 13 = .ok (.aload_n 0, 1) := by decide +kernel
theorem dX1_open_14 : decode cX1_open 14 = .ok (.getfield 30, 3) := by decide +kernel
theorem dX1_open_17 : decode cX1_open 17 = .ok (.getfield 38, 3) := by decide +kernel
theorem dX1_open_20 : decode cX1_open 20 = .ok (.if_icmp .ge 96, 3) := by decide +kernel
theorem dX1_open_23 : decode cX1_open 23 = .ok (.iload_n 3, 1) := by decide +kernel
theorem dX1_open_24 : decode cX1_open 24 = .ok (.bipush 16, 2) := by decide +kernel
theorem dX1_open_26 : decode cX1_open 26 = .ok (.if_icmp .ge 90, 3) := by decide +kernel
theorem dX1_open_29 : decode cX1_open 29 = .ok (.iconst 0, 1) := by decide +kernel
theorem dX1_open_30 : decode cX1_open 30 = .ok (.istore 4, 2) := by decide +kernel
theorem dX1_open_32 : decode cX1_open 32 = .ok (.iload 4, 2) := by decide +kernel
theorem dX1_open_34 : decode cX1_open 34 = .ok (.aload_n 0, 1) := by decide +kernel
theorem dX1_open_35 : decode cX1_open 35 = .ok (.getfield 30, 3) := by decide +kernel
theorem dX1_open_38 : decode cX1_open 38 = .ok (.getfield 43, 3) := by decide +kernel
theorem dX1_open_41 : decode cX1_open 41 = .ok (.if_icmp .ge 69, 3) := by decide +kernel
theorem dX1_open_44 : decode cX1_open 44 = .ok (.iload 4, 2) := by decide +kernel
theorem dX1_open_46 : decode cX1_open 46 = .ok (.bipush 8, 2) := by decide +kernel
theorem dX1_open_48 : decode cX1_open 48 = .ok (.if_icmp .ge 62, 3) := by decide +kernel
theorem dX1_open_51 : decode cX1_open 51 = .ok (.aload_n 0, 1) := by decide +kernel
theorem dX1_open_52 : decode cX1_open 52 = .ok (.getfield 11, 3) := by decide +kernel
theorem dX1_open_55 : decode cX1_open 55 = .ok (.iload_n 3, 1) := by decide +kernel
theorem dX1_open_56 : decode cX1_open 56 = .ok (.aaload, 1) := by decide +kernel
theorem dX1_open_57 : decode cX1_open 57 = .ok (.iload 4, 2) := by decide +kernel
theorem dX1_open_59 : decode cX1_open 59 = .ok (.bipush 99, 2) := by decide +kernel
theorem dX1_open_61 : decode cX1_open 61 = .ok (.aload_n 0, 1) := by decide +kernel
theorem dX1_open_62 : decode cX1_open 62 = .ok (.getfield 30, 3) := by decide +kernel
theorem dX1_open_65 : decode cX1_open 65 = .ok (.iload_n 3, 1) := by decide +kernel
theorem dX1_open_66 : decode cX1_open 66 = .ok (.iload 4, 2) := by decide +kernel
theorem dX1_open_68 : decode cX1_open 68 = .ok (.aload_n 0, 1) := by decide +kernel
theorem dX1_open_69 : decode cX1_open 69 = .ok (.getfield 23, 3) := by decide +kernel
theorem dX1_open_72 : decode cX1_open 72 = .ok (.invokevirtual 46, 3) := by decide +kernel
theorem dX1_open_75 : decode cX1_open 75 = .ok (.aload_n 0, 1) := by decide +kernel
theorem dX1_open_76 : decode cX1_open 76 = .ok (.getfield 27, 3) := by decide +kernel
theorem dX1_open_79 : decode cX1_open 79 = .ok (.iadd, 1) := by decide +kernel
theorem dX1_open_80 : decode cX1_open 80 = .ok (.invokestatic 50, 3) := by decide +kernel
theorem dX1_open_83 : decode cX1_open 83 = .ok (.iastore, 1) := by decide +kernel
theorem dX1_open_84 : decode cX1_open 84 = .ok (.aload_n 0, 1) := by decide +kernel
theorem dX1_open_85 : decode cX1_open 85 = .ok (.getfield 16, 3) := by decide +kernel
theorem dX1_open_88 : decode cX1_open 88 = .ok (.iload_n 3, 1) := by decide +kernel
theorem dX1_open_89 : decode cX1_open 89 = .ok (.aaload, 1) := by decide +kernel
theorem dX1_open_90 : decode cX1_open 90 = .ok (.iload 4, 2) := by decide +kernel
theorem dX1_open_92 : decode cX1_open 92 = .ok (.aload_n 0, 1) := by decide +kernel
theorem dX1_open_93 : decode cX1_open 93 = .ok (.getfield 30, 3) := by decide +kernel
theorem dX1_open_96 : decode cX1_open 96 = .ok (.iload_n 3, 1) := by decide +kernel
theorem dX1_open_97 : decode cX1_open 97 = .ok (.iload 4, 2) := by decide +kernel
theorem dX1_open_99 : decode cX1_open 99 = .ok (.iconst 0, 1) := by decide +kernel
theorem dX1_open_100 : decode cX1_open 100 = .ok (.invokevirtual 46, 3) := by decide +kernel
theorem dX1_open_103 : decode cX1_open 103 = .ok (.iastore, 1) := by decide +kernel
theorem dX1_open_104 : decode cX1_open 104 = .ok (.iinc 4 1, 3) := by decide +kernel
theorem dX1_open_107 : decode cX1_open 107 = .ok (.goto (-75), 3) := by decide +kernel
theorem dX1_open_110 : decode cX1_open 110 = .ok (.iinc 3 1, 3) := by decide +kernel
theorem dX1_open_113 : decode cX1_open 113 = .ok (.goto (-101), 3) := by decide +kernel
theorem dX1_open_116 : decode cX1_open 116 = .ok (.return_, 1) := by decide +kernel
theorem dX1_apartFromPicture_0 : decode cX1_apartFromPicture 0 = .ok (.aload_n 0, 1) := by decide +kernel
theorem dX1_apartFromPicture_1 : decode cX1_apartFromPicture 1 = .ok (.getfield 30, 3) := by decide +kernel
theorem dX1_apartFromPicture_4 : decode cX1_apartFromPicture 4 = .ok (.iload_n 1, 1) := by decide +kernel
theorem dX1_apartFromPicture_5 : decode cX1_apartFromPicture 5 = .ok (.invokevirtual 56, 3) := by decide +kernel
theorem dX1_apartFromPicture_8 : decode cX1_apartFromPicture 8 = .ok (.ifCond .eq 14, 3) := by decide +kernel
theorem dX1_apartFromPicture_11 : decode cX1_apartFromPicture 11 = .ok (.aload_n 0, 1) := by decide +kernel
theorem dX1_apartFromPicture_12 : decode cX1_apartFromPicture 12 = .ok (.getfield 30, 3) := by decide +kernel
theorem dX1_apartFromPicture_15 : decode cX1_apartFromPicture 15 = .ok (.iload_n 2, 1) := by decide +kernel
theorem dX1_apartFromPicture_16 : decode cX1_apartFromPicture 16 = .ok (.invokevirtual 56, 3) := by decide +kernel
theorem dX1_apartFromPicture_19 : decode cX1_apartFromPicture 19 = .ok (.ifCond .ne 5, 3) := by decide +kernel
theorem dX1_apartFromPicture_22 : decode cX1_apartFromPicture 22 = .ok (.iconst 0, 1) := by decide +kernel
theorem dX1_apartFromPicture_23 : decode cX1_apartFromPicture 23 = .ok (.ireturn, 1) := by decide +kernel
theorem dX1_apartFromPicture_24 : decode cX1_apartFromPicture 24 = .ok (.aload_n 0, 1) := by decide +kernel
theorem dX1_apartFromPicture_25 : decode cX1_apartFromPicture 25 = .ok (.getfield 30, 3) := by decide +kernel
theorem dX1_apartFromPicture_28 : decode cX1_apartFromPicture 28 = .ok (.aload_n 0, 1) := by decide +kernel
theorem dX1_apartFromPicture_29 : decode cX1_apartFromPicture 29 = .ok (.getfield 11, 3) := by decide +kernel
theorem dX1_apartFromPicture_32 : decode cX1_apartFromPicture 32 = .ok (.iload_n 1, 1) := by decide +kernel
theorem dX1_apartFromPicture_33 : decode cX1_apartFromPicture 33 = .ok (.aaload, 1) := by decide +kernel
theorem dX1_apartFromPicture_34 : decode cX1_apartFromPicture 34 = .ok (.aload_n 0, 1) := by decide +kernel
theorem dX1_apartFromPicture_35 : decode cX1_apartFromPicture 35 = .ok (.getfield 16, 3) := by decide +kernel
theorem dX1_apartFromPicture_38 : decode cX1_apartFromPicture 38 = .ok (.iload_n 2, 1) := by decide +kernel
theorem dX1_apartFromPicture_39 : decode cX1_apartFromPicture 39 = .ok (.aaload, 1) := by decide +kernel
theorem dX1_apartFromPicture_40 : decode cX1_apartFromPicture 40 = .ok (.invokevirtual 60, 3) := by decide +kernel
theorem dX1_apartFromPicture_43 : decode cX1_apartFromPicture 43 = .ok (.ireturn, 1) := by decide +kernel
theorem dX1_letsInWith_0 : decode cX1_letsInWith 0 = .ok (.aload_n 0, 1) := by decide +kernel
theorem dX1_letsInWith_1 : decode cX1_letsInWith 1 = .ok (.iload_n 1, 1) := by decide +kernel
theorem dX1_letsInWith_2 : decode cX1_letsInWith 2 = .ok (.aload_n 0, 1) := by decide +kernel
theorem dX1_letsInWith_3 : decode cX1_letsInWith 3 = .ok (.iload_n 1, 1) := by decide +kernel
theorem dX1_letsInWith_4 : decode cX1_letsInWith 4 = .ok (.iload_n 2, 1) := by decide +kernel
theorem dX1_letsInWith_5 : decode cX1_letsInWith 5 = .ok (.invokevirtual 64, 3) := by decide +kernel
theorem dX1_letsInWith_8 : decode cX1_letsInWith 8 = .ok (.invokevirtual 67, 3) := by decide +kernel
theorem dX1_letsInWith_11 : decode cX1_letsInWith 11 = .ok (.ireturn, 1) := by decide +kernel
theorem dX1_lets_0 : decode cX1_lets 0 = .ok (.aload_n 0, 1) := by decide +kernel
theorem dX1_lets_1 : decode cX1_lets 1 = .ok (.getfield 34, 3) := by decide +kernel
theorem dX1_lets_4 : decode cX1_lets 4 = .ok (.iload_n 2, 1) := by decide +kernel
theorem dX1_lets_5 : decode cX1_lets 5 = .ok (.aload_n 0, 1) := by decide +kernel
theorem dX1_lets_6 : decode cX1_lets 6 = .ok (.getfield 30, 3) := by decide +kernel
theorem dX1_lets_9 : decode cX1_lets 9 = .ok (.iload_n 1, 1) := by decide +kernel
theorem dX1_lets_10 : decode cX1_lets 10 = .ok (.invokevirtual 71, 3) := by decide +kernel
theorem dX1_lets_13 : decode cX1_lets 13 = .ok (.aload_n 0, 1) := by decide +kernel
theorem dX1_lets_14 : decode cX1_lets 14 = .ok (.getfield 23, 3) := by decide +kernel
theorem dX1_lets_17 : decode cX1_lets 17 = .ok (.aload_n 0, 1) := by decide +kernel
theorem dX1_lets_18 : decode cX1_lets 18 = .ok (.getfield 27, 3) := by decide +kernel
theorem dX1_lets_21 : decode cX1_lets 21 = .ok (.invokevirtual 75, 3) := by decide +kernel
theorem dX1_lets_24 : decode cX1_lets 24 = .ok (.ireturn, 1) := by decide +kernel
theorem dX1_makeMix_0 : decode cX1_makeMix 0 = .ok (.iconst 0, 1) := by decide +kernel
theorem dX1_makeMix_1 : decode cX1_makeMix 1 = .ok (.istore 4, 2) := by decide +kernel
theorem dX1_makeMix_3 : decode cX1_makeMix 3 = .ok (.iload 4, 2) := by decide +kernel
theorem dX1_makeMix_5 : decode cX1_makeMix 5 = .ok (.aload_n 0, 1) := by decide +kernel
theorem dX1_makeMix_6 : decode cX1_makeMix 6 = .ok (.getfield 30, 3) := by decide +kernel
theorem dX1_makeMix_9 : decode cX1_makeMix 9 = .ok (.getfield 43, 3) := by decide +kernel
theorem dX1_makeMix_12 : decode cX1_makeMix 12 = .ok (.if_icmp .ge 35, 3) := by decide +kernel
theorem dX1_makeMix_15 : decode cX1_makeMix 15 = .ok (.iload 4, 2) := by decide +kernel
theorem dX1_makeMix_17 : decode cX1_makeMix 17 = .ok (.bipush 8, 2) := by decide +kernel
theorem dX1_makeMix_19 : decode cX1_makeMix 19 = .ok (.if_icmp .ge 28, 3) := by decide +kernel
theorem dX1_makeMix_22 : decode cX1_makeMix 22 = .ok (.aload_n 0, 1) := by decide +kernel
theorem dX1_makeMix_23 : decode cX1_makeMix 23 = .ok (.getfield 19, 3) := by decide +kernel
theorem dX1_makeMix_26 : decode cX1_makeMix 26 = .ok (.iload 4, 2) := by decide +kernel
theorem dX1_makeMix_28 : decode cX1_makeMix 28 = .ok (.aload_n 0, 1) := by decide +kernel
theorem dX1_makeMix_29 : decode cX1_makeMix 29 = .ok (.getfield 30, 3) := by decide +kernel
theorem dX1_makeMix_32 : decode cX1_makeMix 32 = .ok (.iload_n 1, 1) := by decide +kernel
theorem dX1_makeMix_33 : decode cX1_makeMix 33 = .ok (.iload_n 2, 1) := by decide +kernel
theorem dX1_makeMix_34 : decode cX1_makeMix 34 = .ok (.iload_n 3, 1) := by decide +kernel
theorem dX1_makeMix_35 : decode cX1_makeMix 35 = .ok (.iload 4, 2) := by decide +kernel
theorem dX1_makeMix_37 : decode cX1_makeMix 37 = .ok (.invokevirtual 80, 3) := by decide +kernel
theorem dX1_makeMix_40 : decode cX1_makeMix 40 = .ok (.iastore, 1) := by decide +kernel
theorem dX1_makeMix_41 : decode cX1_makeMix 41 = .ok (.iinc 4 1, 3) := by decide +kernel
theorem dX1_makeMix_44 : decode cX1_makeMix 44 = .ok (.goto (-41), 3) := by decide +kernel
theorem dX1_makeMix_47 : decode cX1_makeMix 47 = .ok (.return_, 1) := by decide +kernel
theorem dX1_apartFromMix_0 : decode cX1_apartFromMix 0 = .ok (.aload_n 0, 1) := by decide +kernel
theorem dX1_apartFromMix_1 : decode cX1_apartFromMix 1 = .ok (.getfield 30, 3) := by decide +kernel
theorem dX1_apartFromMix_4 : decode cX1_apartFromMix 4 = .ok (.iload_n 1, 1) := by decide +kernel
theorem dX1_apartFromMix_5 : decode cX1_apartFromMix 5 = .ok (.invokevirtual 56, 3) := by decide +kernel
theorem dX1_apartFromMix_8 : decode cX1_apartFromMix 8 = .ok (.ifCond .eq 23, 3) := by decide +kernel
theorem dX1_apartFromMix_11 : decode cX1_apartFromMix 11 = .ok (.aload_n 0, 1) := by decide +kernel
theorem dX1_apartFromMix_12 : decode cX1_apartFromMix 12 = .ok (.getfield 30, 3) := by decide +kernel
theorem dX1_apartFromMix_15 : decode cX1_apartFromMix 15 = .ok (.aload_n 0, 1) := by decide +kernel
theorem dX1_apartFromMix_16 : decode cX1_apartFromMix 16 = .ok (.getfield 11, 3) := by decide +kernel
theorem dX1_apartFromMix_19 : decode cX1_apartFromMix 19 = .ok (.iload_n 1, 1) := by decide +kernel
theorem dX1_apartFromMix_20 : decode cX1_apartFromMix 20 = .ok (.aaload, 1) := by decide +kernel
theorem dX1_apartFromMix_21 : decode cX1_apartFromMix 21 = .ok (.aload_n 0, 1) := by decide +kernel
theorem dX1_apartFromMix_22 : decode cX1_apartFromMix 22 = .ok (.getfield 19, 3) := by decide +kernel
theorem dX1_apartFromMix_25 : decode cX1_apartFromMix 25 = .ok (.invokevirtual 60, 3) := by decide +kernel
theorem dX1_apartFromMix_28 : decode cX1_apartFromMix 28 = .ok (.goto 4, 3) := by decide +kernel
theorem dX1_apartFromMix_31 : decode cX1_apartFromMix 31 = .ok (.iconst 0, 1) := by decide +kernel
theorem dX1_apartFromMix_32 : decode cX1_apartFromMix 32 = .ok (.ireturn, 1) := by decide +kernel
theorem dX1_whoPasses_0 : decode cX1_whoPasses 0 = .ok (.aload_n 0, 1) := by decide +kernel
theorem dX1_whoPasses_1 : decode cX1_whoPasses 1 = .ok (.iload_n 1, 1) := by decide +kernel
theorem dX1_whoPasses_2 : decode cX1_whoPasses 2 = .ok (.iload_n 2, 1) := by decide +kernel
theorem dX1_whoPasses_3 : decode cX1_whoPasses 3 = .ok (.iload_n 3, 1) := by decide +kernel
theorem dX1_whoPasses_4 : decode cX1_whoPasses 4 = .ok (.invokevirtual 84, 3) := by decide +kernel
theorem dX1_whoPasses_7 : decode cX1_whoPasses 7 = .ok (.aload_n 0, 1) := by decide +kernel
theorem dX1_whoPasses_8 : decode cX1_whoPasses 8 = .ok (.iload_n 1, 1) := by decide +kernel
theorem dX1_whoPasses_9 : decode cX1_whoPasses 9 = .ok (.aload_n 0, 1) := by decide +kernel
theorem dX1_whoPasses_10 : decode cX1_whoPasses 10 = .ok (.iload_n 1, 1) := by decide +kernel
theorem dX1_whoPasses_11 : decode cX1_whoPasses 11 = .ok (.invokevirtual 88, 3) := by decide +kernel
theorem dX1_whoPasses_14 : decode cX1_whoPasses 14 = .ok (.invokevirtual 67, 3) := by decide +kernel
theorem dX1_whoPasses_17 : decode cX1_whoPasses 17 = .ok (.ifCond .eq 7, 3) := by decide +kernel
theorem dX1_whoPasses_20 : decode cX1_whoPasses 20 = .ok (.iconst 1, 1) := by decide +kernel
theorem dX1_whoPasses_21 : decode cX1_whoPasses 21 = .ok (.goto 4, 3) := by decide +kernel
theorem dX1_whoPasses_24 : decode cX1_whoPasses 24 = .ok (.iconst 0, 1) := by decide +kernel
theorem dX1_whoPasses_25 : decode cX1_whoPasses 25 = .ok (.istore 4, 2) := by decide +kernel
theorem dX1_whoPasses_27 : decode cX1_whoPasses 27 = .ok (.aload_n 0, 1) := by decide +kernel
theorem dX1_whoPasses_28 : decode cX1_whoPasses 28 = .ok (.iload_n 2, 1) := by decide +kernel
theorem dX1_whoPasses_29 : decode cX1_whoPasses 29 = .ok (.aload_n 0, 1) := by decide +kernel
theorem dX1_whoPasses_30 : decode cX1_whoPasses 30 = .ok (.iload_n 2, 1) := by decide +kernel
theorem dX1_whoPasses_31 : decode cX1_whoPasses 31 = .ok (.invokevirtual 88, 3) := by decide +kernel
theorem dX1_whoPasses_34 : decode cX1_whoPasses 34 = .ok (.invokevirtual 67, 3) := by decide +kernel
theorem dX1_whoPasses_37 : decode cX1_whoPasses 37 = .ok (.ifCond .eq 7, 3) := by decide +kernel
theorem dX1_whoPasses_40 : decode cX1_whoPasses 40 = .ok (.iconst 2, 1) := by decide +kernel
theorem dX1_whoPasses_41 : decode cX1_whoPasses 41 = .ok (.goto 4, 3) := by decide +kernel
theorem dX1_whoPasses_44 : decode cX1_whoPasses 44 = .ok (.iconst 0, 1) := by decide +kernel
theorem dX1_whoPasses_45 : decode cX1_whoPasses 45 = .ok (.istore 5, 2) := by decide +kernel
theorem dX1_whoPasses_47 : decode cX1_whoPasses 47 = .ok (.iload 4, 2) := by decide +kernel
theorem dX1_whoPasses_49 : decode cX1_whoPasses 49 = .ok (.iload 5, 2) := by decide +kernel
theorem dX1_whoPasses_51 : decode cX1_whoPasses 51 = .ok (.iadd, 1) := by decide +kernel
theorem dX1_whoPasses_52 : decode cX1_whoPasses 52 = .ok (.ireturn, 1) := by decide +kernel
theorem dX1_bestShare_0 : decode cX1_bestShare 0 = .ok (.iconst (-1), 1) := by decide +kernel
theorem dX1_bestShare_1 : decode cX1_bestShare 1 = .ok (.istore_n 3, 1) := by decide +kernel
theorem dX1_bestShare_2 : decode cX1_bestShare 2 = .ok (.iconst 0, 1) := by decide +kernel
theorem dX1_bestShare_3 : decode cX1_bestShare 3 = .ok (.istore 4, 2) := by decide +kernel
theorem dX1_bestShare_5 : decode cX1_bestShare 5 = .ok (.iconst 0, 1) := by decide +kernel
theorem dX1_bestShare_6 : decode cX1_bestShare 6 = .ok (.istore 5, 2) := by decide +kernel
theorem dX1_bestShare_8 : decode cX1_bestShare 8 = .ok (.iload 5, 2) := by decide +kernel
theorem dX1_bestShare_10 : decode cX1_bestShare 10 = .ok (.bipush 10, 2) := by decide +kernel
theorem dX1_bestShare_12 : decode cX1_bestShare 12 = .ok (.if_icmp .gt 79, 3) := by decide +kernel
theorem dX1_bestShare_15 : decode cX1_bestShare 15 = .ok (.aload_n 0, 1) := by decide +kernel
theorem dX1_bestShare_16 : decode cX1_bestShare 16 = .ok (.iload_n 1, 1) := by decide +kernel
theorem dX1_bestShare_17 : decode cX1_bestShare 17 = .ok (.iload_n 2, 1) := by decide +kernel
theorem dX1_bestShare_18 : decode cX1_bestShare 18 = .ok (.iload 5, 2) := by decide +kernel
theorem dX1_bestShare_20 : decode cX1_bestShare 20 = .ok (.invokevirtual 84, 3) := by decide +kernel
theorem dX1_bestShare_23 : decode cX1_bestShare 23 = .ok (.aload_n 0, 1) := by decide +kernel
theorem dX1_bestShare_24 : decode cX1_bestShare 24 = .ok (.iload_n 1, 1) := by decide +kernel
theorem dX1_bestShare_25 : decode cX1_bestShare 25 = .ok (.invokevirtual 88, 3) := by decide +kernel
theorem dX1_bestShare_28 : decode cX1_bestShare 28 = .ok (.istore 6, 2) := by decide +kernel
theorem dX1_bestShare_30 : decode cX1_bestShare 30 = .ok (.aload_n 0, 1) := by decide +kernel
theorem dX1_bestShare_31 : decode cX1_bestShare 31 = .ok (.iload_n 2, 1) := by decide +kernel
theorem dX1_bestShare_32 : decode cX1_bestShare 32 = .ok (.invokevirtual 88, 3) := by decide +kernel
theorem dX1_bestShare_35 : decode cX1_bestShare 35 = .ok (.istore 7, 2) := by decide +kernel
theorem dX1_bestShare_37 : decode cX1_bestShare 37 = .ok (.iload 6, 2) := by decide +kernel
theorem dX1_bestShare_39 : decode cX1_bestShare 39 = .ok (.iload 7, 2) := by decide +kernel
theorem dX1_bestShare_41 : decode cX1_bestShare 41 = .ok (.invokestatic 91, 3) := by decide +kernel
theorem dX1_bestShare_44 : decode cX1_bestShare 44 = .ok (.istore 8, 2) := by decide +kernel
theorem dX1_bestShare_46 : decode cX1_bestShare 46 = .ok (.iload_n 3, 1) := by decide +kernel
theorem dX1_bestShare_47 : decode cX1_bestShare 47 = .ok (.iconst (-1), 1) := by decide +kernel
theorem dX1_bestShare_48 : decode cX1_bestShare 48 = .ok (.if_icmp .eq 10, 3) := by decide +kernel
theorem dX1_bestShare_51 : decode cX1_bestShare 51 = .ok (.iload 8, 2) := by decide +kernel
theorem dX1_bestShare_53 : decode cX1_bestShare 53 = .ok (.iload 4, 2) := by decide +kernel
theorem dX1_bestShare_55 : decode cX1_bestShare 55 = .ok (.if_icmp .ge 30, 3) := by decide +kernel
theorem dX1_bestShare_58 : decode cX1_bestShare 58 = .ok (.aload_n 0, 1) := by decide +kernel
theorem dX1_bestShare_59 : decode cX1_bestShare 59 = .ok (.iload_n 1, 1) := by decide +kernel
theorem dX1_bestShare_60 : decode cX1_bestShare 60 = .ok (.iload 6, 2) := by decide +kernel
theorem dX1_bestShare_62 : decode cX1_bestShare 62 = .ok (.invokevirtual 67, 3) := by decide +kernel
theorem dX1_bestShare_65 : decode cX1_bestShare 65 = .ok (.ifCond .eq 20, 3) := by decide +kernel
theorem dX1_bestShare_68 : decode cX1_bestShare 68 = .ok (.aload_n 0, 1) := by decide +kernel
theorem dX1_bestShare_69 : decode cX1_bestShare 69 = .ok (.iload_n 2, 1) := by decide +kernel
theorem dX1_bestShare_70 : decode cX1_bestShare 70 = .ok (.iload 7, 2) := by decide +kernel
theorem dX1_bestShare_72 : decode cX1_bestShare 72 = .ok (.invokevirtual 67, 3) := by decide +kernel
theorem dX1_bestShare_75 : decode cX1_bestShare 75 = .ok (.ifCond .eq 10, 3) := by decide +kernel
theorem dX1_bestShare_78 : decode cX1_bestShare 78 = .ok (.iload 5, 2) := by decide +kernel
theorem dX1_bestShare_80 : decode cX1_bestShare 80 = .ok (.istore_n 3, 1) := by decide +kernel
theorem dX1_bestShare_81 : decode cX1_bestShare 81 = .ok (.iload 8, 2) := by decide +kernel
theorem dX1_bestShare_83 : decode cX1_bestShare 83 = .ok (.istore 4, 2) := by decide +kernel
theorem dX1_bestShare_85 : decode cX1_bestShare 85 = .ok (.iinc 5 1, 3) := by decide +kernel
theorem dX1_bestShare_88 : decode cX1_bestShare 88 = .ok (.goto (-80), 3) := by decide +kernel
theorem dX1_bestShare_91 : decode cX1_bestShare 91 = .ok (.iload_n 3, 1) := by decide +kernel
theorem dX1_bestShare_92 : decode cX1_bestShare 92 = .ok (.ireturn, 1) := by decide +kernel
theorem dX1_isAble_0 : decode cX1_isAble 0 = .ok (.iconst 0, 1) := by decide +kernel
theorem dX1_isAble_1 : decode cX1_isAble 1 = .ok (.istore_n 3, 1) := by decide +kernel
theorem dX1_isAble_2 : decode cX1_isAble 2 = .ok (.iload_n 3, 1) := by decide +kernel
theorem dX1_isAble_3 : decode cX1_isAble 3 = .ok (.bipush 10, 2) := by decide +kernel
theorem dX1_isAble_5 : decode cX1_isAble 5 = .ok (.if_icmp .gt 44, 3) := by decide +kernel
theorem dX1_isAble_8 : decode cX1_isAble 8 = .ok (.aload_n 0, 1) := by decide +kernel
theorem dX1_isAble_9 : decode cX1_isAble 9 = .ok (.iload_n 1, 1) := by decide +kernel
theorem dX1_isAble_10 : decode cX1_isAble 10 = .ok (.iload_n 2, 1) := by decide +kernel
theorem dX1_isAble_11 : decode cX1_isAble 11 = .ok (.iload_n 3, 1) := by decide +kernel
theorem dX1_isAble_12 : decode cX1_isAble 12 = .ok (.invokevirtual 84, 3) := by decide +kernel
theorem dX1_isAble_15 : decode cX1_isAble 15 = .ok (.aload_n 0, 1) := by decide +kernel
theorem dX1_isAble_16 : decode cX1_isAble 16 = .ok (.iload_n 1, 1) := by decide +kernel
theorem dX1_isAble_17 : decode cX1_isAble 17 = .ok (.aload_n 0, 1) := by decide +kernel
theorem dX1_isAble_18 : decode cX1_isAble 18 = .ok (.iload_n 1, 1) := by decide +kernel
theorem dX1_isAble_19 : decode cX1_isAble 19 = .ok (.invokevirtual 88, 3) := by decide +kernel
theorem dX1_isAble_22 : decode cX1_isAble 22 = .ok (.invokevirtual 67, 3) := by decide +kernel
theorem dX1_isAble_25 : decode cX1_isAble 25 = .ok (.ifCond .eq 18, 3) := by decide +kernel
theorem dX1_isAble_28 : decode cX1_isAble 28 = .ok (.aload_n 0, 1) := by decide +kernel
theorem dX1_isAble_29 : decode cX1_isAble 29 = .ok (.iload_n 2, 1) := by decide +kernel
theorem dX1_isAble_30 : decode cX1_isAble 30 = .ok (.aload_n 0, 1) := by decide +kernel
theorem dX1_isAble_31 : decode cX1_isAble 31 = .ok (.iload_n 2, 1) := by decide +kernel
theorem dX1_isAble_32 : decode cX1_isAble 32 = .ok (.invokevirtual 88, 3) := by decide +kernel
theorem dX1_isAble_35 : decode cX1_isAble 35 = .ok (.invokevirtual 67, 3) := by decide +kernel
theorem dX1_isAble_38 : decode cX1_isAble 38 = .ok (.ifCond .eq 5, 3) := by decide +kernel
theorem dX1_isAble_41 : decode cX1_isAble 41 = .ok (.iconst 1, 1) := by decide +kernel
theorem dX1_isAble_42 : decode cX1_isAble 42 = .ok (.ireturn, 1) := by decide +kernel
theorem dX1_isAble_43 : decode cX1_isAble 43 = .ok (.iinc 3 1, 3) := by decide +kernel
theorem dX1_isAble_46 : decode cX1_isAble 46 = .ok (.goto (-44), 3) := by decide +kernel
theorem dX1_isAble_49 : decode cX1_isAble 49 = .ok (.iconst 0, 1) := by decide +kernel
theorem dX1_isAble_50 : decode cX1_isAble 50 = .ok (.ireturn, 1) := by decide +kernel
theorem dX1_countAble_0 : decode cX1_countAble 0 = .ok (.iconst 0, 1) := by decide +kernel
theorem dX1_countAble_1 : decode cX1_countAble 1 = .ok (.istore_n 1, 1) := by decide +kernel
theorem dX1_countAble_2 : decode cX1_countAble 2 = .ok (.iconst 0, 1) := by decide +kernel
theorem dX1_countAble_3 : decode cX1_countAble 3 = .ok (.istore_n 2, 1) := by decide +kernel
theorem dX1_countAble_4 : decode cX1_countAble 4 = .ok (.iload_n 2, 1) := by decide +kernel
theorem dX1_countAble_5 : decode cX1_countAble 5 = .ok (.aload_n 0, 1) := by decide +kernel
theorem dX1_countAble_6 : decode cX1_countAble 6 = .ok (.getfield 30, 3) := by decide +kernel
theorem dX1_countAble_9 : decode cX1_countAble 9 = .ok (.getfield 38, 3) := by decide +kernel
theorem dX1_countAble_12 : decode cX1_countAble 12 = .ok (.if_icmp .ge 42, 3) := by decide +kernel
theorem dX1_countAble_15 : decode cX1_countAble 15 = .ok (.iload_n 2, 1) := by decide +kernel
theorem dX1_countAble_16 : decode cX1_countAble 16 = .ok (.iconst 1, 1) := by decide +kernel
theorem dX1_countAble_17 : decode cX1_countAble 17 = .ok (.iadd, 1) := by decide +kernel
theorem dX1_countAble_18 : decode cX1_countAble 18 = .ok (.istore_n 3, 1) := by decide +kernel
theorem dX1_countAble_19 : decode cX1_countAble 19 = .ok (.iload_n 3, 1) := by decide +kernel
theorem dX1_countAble_20 : decode cX1_countAble 20 = .ok (.aload_n 0, 1) := by decide +kernel
theorem dX1_countAble_21 : decode cX1_countAble 21 = .ok (.getfield 30, 3) := by decide +kernel
theorem dX1_countAble_24 : decode cX1_countAble 24 = .ok (.getfield 38, 3) := by decide +kernel
theorem dX1_countAble_27 : decode cX1_countAble 27 = .ok (.if_icmp .ge 21, 3) := by decide +kernel
theorem dX1_countAble_30 : decode cX1_countAble 30 = .ok (.aload_n 0, 1) := by decide +kernel
theorem dX1_countAble_31 : decode cX1_countAble 31 = .ok (.iload_n 2, 1) := by decide +kernel
theorem dX1_countAble_32 : decode cX1_countAble 32 = .ok (.iload_n 3, 1) := by decide +kernel
theorem dX1_countAble_33 : decode cX1_countAble 33 = .ok (.invokevirtual 94, 3) := by decide +kernel
theorem dX1_countAble_36 : decode cX1_countAble 36 = .ok (.ifCond .eq 6, 3) := by decide +kernel
theorem dX1_countAble_39 : decode cX1_countAble 39 = .ok (.iinc 1 1, 3) := by decide +kernel
theorem dX1_countAble_42 : decode cX1_countAble 42 = .ok (.iinc 3 1, 3) := by decide +kernel
theorem dX1_countAble_45 : decode cX1_countAble 45 = .ok (.goto (-26), 3) := by decide +kernel
theorem dX1_countAble_48 : decode cX1_countAble 48 = .ok (.iinc 2 1, 3) := by decide +kernel
theorem dX1_countAble_51 : decode cX1_countAble 51 = .ok (.goto (-47), 3) := by decide +kernel
theorem dX1_countAble_54 : decode cX1_countAble 54 = .ok (.iload_n 1, 1) := by decide +kernel
theorem dX1_countAble_55 : decode cX1_countAble 55 = .ok (.ireturn, 1) := by decide +kernel
theorem dX1_ableAt_0 : decode cX1_ableAt 0 = .ok (.iload_n 1, 1) := by decide +kernel
theorem dX1_ableAt_1 : decode cX1_ableAt 1 = .ok (.istore_n 2, 1) := by decide +kernel
theorem dX1_ableAt_2 : decode cX1_ableAt 2 = .ok (.iconst 0, 1) := by decide +kernel
theorem dX1_ableAt_3 : decode cX1_ableAt 3 = .ok (.istore_n 3, 1) := by decide +kernel
theorem dX1_ableAt_4 : decode cX1_ableAt 4 = .ok (.iload_n 3, 1) := by decide +kernel
theorem dX1_ableAt_5 : decode cX1_ableAt 5 = .ok (.aload_n 0, 1) := by decide +kernel
theorem dX1_ableAt_6 : decode cX1_ableAt 6 = .ok (.getfield 30, 3) := by decide +kernel
theorem dX1_ableAt_9 : decode cX1_ableAt 9 = .ok (.getfield 38, 3) := by decide +kernel
theorem dX1_ableAt_12 : decode cX1_ableAt 12 = .ok (.if_icmp .ge 57, 3) := by decide +kernel
theorem dX1_ableAt_15 : decode cX1_ableAt 15 = .ok (.iload_n 3, 1) := by decide +kernel
theorem dX1_ableAt_16 : decode cX1_ableAt 16 = .ok (.iconst 1, 1) := by decide +kernel
theorem dX1_ableAt_17 : decode cX1_ableAt 17 = .ok (.iadd, 1) := by decide +kernel
theorem dX1_ableAt_18 : decode cX1_ableAt 18 = .ok (.istore 4, 2) := by decide +kernel
theorem dX1_ableAt_20 : decode cX1_ableAt 20 = .ok (.iload 4, 2) := by decide +kernel
theorem dX1_ableAt_22 : decode cX1_ableAt 22 = .ok (.aload_n 0, 1) := by decide +kernel
theorem dX1_ableAt_23 : decode cX1_ableAt 23 = .ok (.getfield 30, 3) := by decide +kernel
theorem dX1_ableAt_26 : decode cX1_ableAt 26 = .ok (.getfield 38, 3) := by decide +kernel
theorem dX1_ableAt_29 : decode cX1_ableAt 29 = .ok (.if_icmp .ge 34, 3) := by decide +kernel
theorem dX1_ableAt_32 : decode cX1_ableAt 32 = .ok (.aload_n 0, 1) := by decide +kernel
theorem dX1_ableAt_33 : decode cX1_ableAt 33 = .ok (.iload_n 3, 1) := by decide +kernel
theorem dX1_ableAt_34 : decode cX1_ableAt 34 = .ok (.iload 4, 2) := by decide +kernel
theorem dX1_ableAt_36 : decode cX1_ableAt 36 = .ok (.invokevirtual 94, 3) := by decide +kernel
theorem dX1_ableAt_39 : decode cX1_ableAt 39 = .ok (.ifCond .eq 18, 3) := by decide +kernel
theorem dX1_ableAt_42 : decode cX1_ableAt 42 = .ok (.iload_n 2, 1) := by decide +kernel
theorem dX1_ableAt_43 : decode cX1_ableAt 43 = .ok (.ifCond .ne 11, 3) := by decide +kernel
theorem dX1_ableAt_46 : decode cX1_ableAt 46 = .ok (.bipush 100, 2) := by decide +kernel
theorem dX1_ableAt_48 : decode cX1_ableAt 48 = .ok (.iload_n 3, 1) := by decide +kernel
theorem dX1_ableAt_49 : decode cX1_ableAt 49 = .ok (.imul, 1) := by decide +kernel
theorem dX1_ableAt_50 : decode cX1_ableAt 50 = .ok (.iload 4, 2) := by decide +kernel
theorem dX1_ableAt_52 : decode cX1_ableAt 52 = .ok (.iadd, 1) := by decide +kernel
theorem dX1_ableAt_53 : decode cX1_ableAt 53 = .ok (.ireturn, 1) := by decide +kernel
theorem dX1_ableAt_54 : decode cX1_ableAt 54 = .ok (.iinc 2 (-1), 3) := by decide +kernel
theorem dX1_ableAt_57 : decode cX1_ableAt 57 = .ok (.iinc 4 1, 3) := by decide +kernel
theorem dX1_ableAt_60 : decode cX1_ableAt 60 = .ok (.goto (-40), 3) := by decide +kernel
theorem dX1_ableAt_63 : decode cX1_ableAt 63 = .ok (.iinc 3 1, 3) := by decide +kernel
theorem dX1_ableAt_66 : decode cX1_ableAt 66 = .ok (.goto (-62), 3) := by decide +kernel
theorem dX1_ableAt_69 : decode cX1_ableAt 69 = .ok (.iconst (-1), 1) := by decide +kernel
theorem dX1_ableAt_70 : decode cX1_ableAt 70 = .ok (.ireturn, 1) := by decide +kernel
theorem dX1_countFalse_0 : decode cX1_countFalse 0 = .ok (.iconst 0, 1) := by decide +kernel
theorem dX1_countFalse_1 : decode cX1_countFalse 1 = .ok (.istore_n 2, 1) := by decide +kernel
theorem dX1_countFalse_2 : decode cX1_countFalse 2 = .ok (.iconst 0, 1) := by decide +kernel
theorem dX1_countFalse_3 : decode cX1_countFalse 3 = .ok (.istore_n 3, 1) := by decide +kernel
theorem dX1_countFalse_4 : decode cX1_countFalse 4 = .ok (.iload_n 3, 1) := by decide +kernel
theorem dX1_countFalse_5 : decode cX1_countFalse 5 = .ok (.aload_n 0, 1) := by decide +kernel
theorem dX1_countFalse_6 : decode cX1_countFalse 6 = .ok (.getfield 30, 3) := by decide +kernel
theorem dX1_countFalse_9 : decode cX1_countFalse 9 = .ok (.getfield 38, 3) := by decide +kernel
theorem dX1_countFalse_12 : decode cX1_countFalse 12 = .ok (.if_icmp .ge 58, 3) := by decide +kernel
theorem dX1_countFalse_15 : decode cX1_countFalse 15 = .ok (.iconst 0, 1) := by decide +kernel
theorem dX1_countFalse_16 : decode cX1_countFalse 16 = .ok (.istore 4, 2) := by decide +kernel
theorem dX1_countFalse_18 : decode cX1_countFalse 18 = .ok (.iload 4, 2) := by decide +kernel
theorem dX1_countFalse_20 : decode cX1_countFalse 20 = .ok (.aload_n 0, 1) := by decide +kernel
theorem dX1_countFalse_21 : decode cX1_countFalse 21 = .ok (.getfield 30, 3) := by decide +kernel
theorem dX1_countFalse_24 : decode cX1_countFalse 24 = .ok (.getfield 38, 3) := by decide +kernel
theorem dX1_countFalse_27 : decode cX1_countFalse 27 = .ok (.if_icmp .ge 37, 3) := by decide +kernel
theorem dX1_countFalse_30 : decode cX1_countFalse 30 = .ok (.iload_n 3, 1) := by decide +kernel
theorem dX1_countFalse_31 : decode cX1_countFalse 31 = .ok (.iload 4, 2) := by decide +kernel
theorem dX1_countFalse_33 : decode cX1_countFalse 33 = .ok (.if_icmp .eq 25, 3) := by decide +kernel
theorem dX1_countFalse_36 : decode cX1_countFalse 36 = .ok (.aload_n 0, 1) := by decide +kernel
theorem dX1_countFalse_37 : decode cX1_countFalse 37 = .ok (.iload_n 3, 1) := by decide +kernel
theorem dX1_countFalse_38 : decode cX1_countFalse 38 = .ok (.iload_n 1, 1) := by decide +kernel
theorem dX1_countFalse_39 : decode cX1_countFalse 39 = .ok (.invokevirtual 97, 3) := by decide +kernel
theorem dX1_countFalse_42 : decode cX1_countFalse 42 = .ok (.ifCond .eq 16, 3) := by decide +kernel
theorem dX1_countFalse_45 : decode cX1_countFalse 45 = .ok (.aload_n 0, 1) := by decide +kernel
theorem dX1_countFalse_46 : decode cX1_countFalse 46 = .ok (.iload_n 3, 1) := by decide +kernel
theorem dX1_countFalse_47 : decode cX1_countFalse 47 = .ok (.iload 4, 2) := by decide +kernel
theorem dX1_countFalse_49 : decode cX1_countFalse 49 = .ok (.invokevirtual 100, 3) := by decide +kernel
theorem dX1_countFalse_52 : decode cX1_countFalse 52 = .ok (.ifCond .eq 6, 3) := by decide +kernel
theorem dX1_countFalse_55 : decode cX1_countFalse 55 = .ok (.iinc 2 1, 3) := by decide +kernel
theorem dX1_countFalse_58 : decode cX1_countFalse 58 = .ok (.iinc 4 1, 3) := by decide +kernel
theorem dX1_countFalse_61 : decode cX1_countFalse 61 = .ok (.goto (-43), 3) := by decide +kernel
theorem dX1_countFalse_64 : decode cX1_countFalse 64 = .ok (.iinc 3 1, 3) := by decide +kernel
theorem dX1_countFalse_67 : decode cX1_countFalse 67 = .ok (.goto (-63), 3) := by decide +kernel
theorem dX1_countFalse_70 : decode cX1_countFalse 70 = .ok (.iload_n 2, 1) := by decide +kernel
theorem dX1_countFalse_71 : decode cX1_countFalse 71 = .ok (.ireturn, 1) := by decide +kernel
theorem dX1_countHeld_0 : decode cX1_countHeld 0 = .ok (.iconst 0, 1) := by decide +kernel
theorem dX1_countHeld_1 : decode cX1_countHeld 1 = .ok (.istore_n 2, 1) := by decide +kernel
theorem dX1_countHeld_2 : decode cX1_countHeld 2 = .ok (.iconst 0, 1) := by decide +kernel
theorem dX1_countHeld_3 : decode cX1_countHeld 3 = .ok (.istore_n 3, 1) := by decide +kernel
theorem dX1_countHeld_4 : decode cX1_countHeld 4 = .ok (.iload_n 3, 1) := by decide +kernel
theorem dX1_countHeld_5 : decode cX1_countHeld 5 = .ok (.aload_n 0, 1) := by decide +kernel
theorem dX1_countHeld_6 : decode cX1_countHeld 6 = .ok (.getfield 30, 3) := by decide +kernel
theorem dX1_countHeld_9 : decode cX1_countHeld 9 = .ok (.getfield 38, 3) := by decide +kernel
theorem dX1_countHeld_12 : decode cX1_countHeld 12 = .ok (.if_icmp .ge 30, 3) := by decide +kernel
theorem dX1_countHeld_15 : decode cX1_countHeld 15 = .ok (.aload_n 0, 1) := by decide +kernel
theorem dX1_countHeld_16 : decode cX1_countHeld 16 = .ok (.iload_n 3, 1) := by decide +kernel
theorem dX1_countHeld_17 : decode cX1_countHeld 17 = .ok (.iload_n 1, 1) := by decide +kernel
theorem dX1_countHeld_18 : decode cX1_countHeld 18 = .ok (.invokevirtual 97, 3) := by decide +kernel
theorem dX1_countHeld_21 : decode cX1_countHeld 21 = .ok (.ifCond .eq 15, 3) := by decide +kernel
theorem dX1_countHeld_24 : decode cX1_countHeld 24 = .ok (.aload_n 0, 1) := by decide +kernel
theorem dX1_countHeld_25 : decode cX1_countHeld 25 = .ok (.iload_n 3, 1) := by decide +kernel
theorem dX1_countHeld_26 : decode cX1_countHeld 26 = .ok (.iload_n 3, 1) := by decide +kernel
theorem dX1_countHeld_27 : decode cX1_countHeld 27 = .ok (.invokevirtual 100, 3) := by decide +kernel
theorem dX1_countHeld_30 : decode cX1_countHeld 30 = .ok (.ifCond .ne 6, 3) := by decide +kernel
theorem dX1_countHeld_33 : decode cX1_countHeld 33 = .ok (.iinc 2 1, 3) := by decide +kernel
theorem dX1_countHeld_36 : decode cX1_countHeld 36 = .ok (.iinc 3 1, 3) := by decide +kernel
theorem dX1_countHeld_39 : decode cX1_countHeld 39 = .ok (.goto (-35), 3) := by decide +kernel
theorem dX1_countHeld_42 : decode cX1_countHeld 42 = .ok (.iload_n 2, 1) := by decide +kernel
theorem dX1_countHeld_43 : decode cX1_countHeld 43 = .ok (.ireturn, 1) := by decide +kernel
theorem dX1_isOf_0 : decode cX1_isOf 0 = .ok (.iload_n 2, 1) := by decide +kernel
theorem dX1_isOf_1 : decode cX1_isOf 1 = .ok (.iconst (-1), 1) := by decide +kernel
theorem dX1_isOf_2 : decode cX1_isOf 2 = .ok (.if_icmp .eq 15, 3) := by decide +kernel
theorem dX1_isOf_5 : decode cX1_isOf 5 = .ok (.aload_n 0, 1) := by decide +kernel
theorem dX1_isOf_6 : decode cX1_isOf 6 = .ok (.getfield 30, 3) := by decide +kernel
theorem dX1_isOf_9 : decode cX1_isOf 9 = .ok (.iload_n 1, 1) := by decide +kernel
theorem dX1_isOf_10 : decode cX1_isOf 10 = .ok (.invokevirtual 71, 3) := by decide +kernel
theorem dX1_isOf_13 : decode cX1_isOf 13 = .ok (.iload_n 2, 1) := by decide +kernel
theorem dX1_isOf_14 : decode cX1_isOf 14 = .ok (.if_icmp .ne 7, 3) := by decide +kernel
theorem dX1_isOf_17 : decode cX1_isOf 17 = .ok (.iconst 1, 1) := by decide +kernel
theorem dX1_isOf_18 : decode cX1_isOf 18 = .ok (.goto 4, 3) := by decide +kernel
theorem dX1_isOf_21 : decode cX1_isOf 21 = .ok (.iconst 0, 1) := by decide +kernel
theorem dX1_isOf_22 : decode cX1_isOf 22 = .ok (.ireturn, 1) := by decide +kernel
theorem dX1_countTwins_0 : decode cX1_countTwins 0 = .ok (.iconst 0, 1) := by decide +kernel
theorem dX1_countTwins_1 : decode cX1_countTwins 1 = .ok (.istore_n 1, 1) := by decide +kernel
theorem dX1_countTwins_2 : decode cX1_countTwins 2 = .ok (.iconst 0, 1) := by decide +kernel
theorem dX1_countTwins_3 : decode cX1_countTwins 3 = .ok (.istore_n 2, 1) := by decide +kernel
theorem dX1_countTwins_4 : decode cX1_countTwins 4 = .ok (.iload_n 2, 1) := by decide +kernel
theorem dX1_countTwins_5 : decode cX1_countTwins 5 = .ok (.aload_n 0, 1) := by decide +kernel
theorem dX1_countTwins_6 : decode cX1_countTwins 6 = .ok (.getfield 30, 3) := by decide +kernel
theorem dX1_countTwins_9 : decode cX1_countTwins 9 = .ok (.getfield 38, 3) := by decide +kernel
theorem dX1_countTwins_12 : decode cX1_countTwins 12 = .ok (.if_icmp .ge 51, 3) := by decide +kernel
theorem dX1_countTwins_15 : decode cX1_countTwins 15 = .ok (.iload_n 2, 1) := by decide +kernel
theorem dX1_countTwins_16 : decode cX1_countTwins 16 = .ok (.iconst 1, 1) := by decide +kernel
theorem dX1_countTwins_17 : decode cX1_countTwins 17 = .ok (.iadd, 1) := by decide +kernel
theorem dX1_countTwins_18 : decode cX1_countTwins 18 = .ok (.istore_n 3, 1) := by decide +kernel
theorem dX1_countTwins_19 : decode cX1_countTwins 19 = .ok (.iload_n 3, 1) := by decide +kernel
theorem dX1_countTwins_20 : decode cX1_countTwins 20 = .ok (.aload_n 0, 1) := by decide +kernel
theorem dX1_countTwins_21 : decode cX1_countTwins 21 = .ok (.getfield 30, 3) := by decide +kernel
theorem dX1_countTwins_24 : decode cX1_countTwins 24 = .ok (.getfield 38, 3) := by decide +kernel
theorem dX1_countTwins_27 : decode cX1_countTwins 27 = .ok (.if_icmp .ge 30, 3) := by decide +kernel
theorem dX1_countTwins_30 : decode cX1_countTwins 30 = .ok (.aload_n 0, 1) := by decide +kernel
theorem dX1_countTwins_31 : decode cX1_countTwins 31 = .ok (.iload_n 2, 1) := by decide +kernel
theorem dX1_countTwins_32 : decode cX1_countTwins 32 = .ok (.iload_n 3, 1) := by decide +kernel
theorem dX1_countTwins_33 : decode cX1_countTwins 33 = .ok (.invokevirtual 100, 3) := by decide +kernel
theorem dX1_countTwins_36 : decode cX1_countTwins 36 = .ok (.ifCond .eq 15, 3) := by decide +kernel
theorem dX1_countTwins_39 : decode cX1_countTwins 39 = .ok (.aload_n 0, 1) := by decide +kernel
theorem dX1_countTwins_40 : decode cX1_countTwins 40 = .ok (.iload_n 3, 1) := by decide +kernel
theorem dX1_countTwins_41 : decode cX1_countTwins 41 = .ok (.iload_n 2, 1) := by decide +kernel
theorem dX1_countTwins_42 : decode cX1_countTwins 42 = .ok (.invokevirtual 100, 3) := by decide +kernel
theorem dX1_countTwins_45 : decode cX1_countTwins 45 = .ok (.ifCond .eq 6, 3) := by decide +kernel
theorem dX1_countTwins_48 : decode cX1_countTwins 48 = .ok (.iinc 1 1, 3) := by decide +kernel
theorem dX1_countTwins_51 : decode cX1_countTwins 51 = .ok (.iinc 3 1, 3) := by decide +kernel
theorem dX1_countTwins_54 : decode cX1_countTwins 54 = .ok (.goto (-35), 3) := by decide +kernel
theorem dX1_countTwins_57 : decode cX1_countTwins 57 = .ok (.iinc 2 1, 3) := by decide +kernel
theorem dX1_countTwins_60 : decode cX1_countTwins 60 = .ok (.goto (-56), 3) := by decide +kernel
theorem dX1_countTwins_63 : decode cX1_countTwins 63 = .ok (.iload_n 1, 1) := by decide +kernel
theorem dX1_countTwins_64 : decode cX1_countTwins 64 = .ok (.ireturn, 1) := by decide +kernel
theorem dX2_init_0 : decode cX2_init 0 = .ok (.aload_n 0, 1) := by decide +kernel
theorem dX2_init_1 : decode cX2_init 1 = .ok (.invokespecial 3, 3) := by decide +kernel
theorem dX2_init_4 : decode cX2_init 4 = .ok (.aload_n 0, 1) := by decide +kernel
theorem dX2_init_5 : decode cX2_init 5 = .ok (.iconst 0, 1) := by decide +kernel
theorem dX2_init_6 : decode cX2_init 6 = .ok (.putfield 9, 3) := by decide +kernel
theorem dX2_init_9 : decode cX2_init 9 = .ok (.aload_n 0, 1) := by decide +kernel
theorem dX2_init_10 : decode cX2_init 10 = .ok (.iconst 0, 1) := by decide +kernel
theorem dX2_init_11 : decode cX2_init 11 = .ok (.putfield 15, 3) := by decide +kernel
theorem dX2_init_14 : decode cX2_init 14 = .ok (.aload_n 0, 1) := by decide +kernel
theorem dX2_init_15 : decode cX2_init 15 = .ok (.iconst 0, 1) := by decide +kernel
theorem dX2_init_16 : decode cX2_init 16 = .ok (.putfield 18, 3) := by decide +kernel
theorem dX2_init_19 : decode cX2_init 19 = .ok (.aload_n 0, 1) := by decide +kernel
theorem dX2_init_20 : decode cX2_init 20 = .ok (.bipush 40, 2) := by decide +kernel
theorem dX2_init_22 : decode cX2_init 22 = .ok (.newarray .int, 2) := by decide +kernel
theorem dX2_init_24 : decode cX2_init 24 = .ok (.putfield 22, 3) := by decide +kernel
theorem dX2_init_27 : decode cX2_init 27 = .ok (.aload_n 0, 1) := by decide +kernel
theorem dX2_init_28 : decode cX2_init 28 = .ok (.bipush 40, 2) := by decide +kernel
theorem dX2_init_30 : decode cX2_init 30 = .ok (.newarray .int, 2) := by decide +kernel
theorem dX2_init_32 : decode cX2_init 32 = .ok (.putfield 26, 3) := by decide +kernel
theorem dX2_init_35 : decode cX2_init 35 = .ok (.aload_n 0, 1) := by decide +kernel
theorem dX2_init_36 : decode cX2_init 36 = .ok (.bipush 40, 2) := by decide +kernel
theorem dX2_init_38 : decode cX2_init 38 = .ok (.newarray .int, 2) := by decide +kernel
theorem dX2_init_40 : decode cX2_init 40 = .ok (.putfield 29, 3) := by decide +kernel
theorem dX2_init_43 : decode cX2_init 43 = .ok (.aload_n 0, 1) := by decide +kernel
theorem dX2_init_44 : decode cX2_init 44 = .ok (.bipush 40, 2) := by decide +kernel
theorem dX2_init_46 : decode cX2_init 46 = .ok (.newarray .int, 2) := by decide +kernel
theorem dX2_init_48 : decode cX2_init 48 = .ok (.putfield 32, 3) := by decide +kernel
theorem dX2_init_51 : decode cX2_init 51 = .ok (.aload_n 0, 1) := by decide +kernel
theorem dX2_init_52 : decode cX2_init 52 = .ok (.bipush 40, 2) := by decide +kernel
theorem dX2_init_54 : decode cX2_init 54 = .ok (.newarray .int, 2) := by decide +kernel
theorem dX2_init_56 : decode cX2_init 56 = .ok (.putfield 35, 3) := by decide +kernel
theorem dX2_init_59 : decode cX2_init 59 = .ok (.aload_n 0, 1) := by decide +kernel
theorem dX2_init_60 : decode cX2_init 60 = .ok (.bipush 40, 2) := by decide +kernel
theorem dX2_init_62 : decode cX2_init 62 = .ok (.newarray .int, 2) := by decide +kernel
theorem dX2_init_64 : decode cX2_init 64 = .ok (.putfield 38, 3) := by decide +kernel
theorem dX2_init_67 : decode cX2_init 67 = .ok (.return_, 1) := by decide +kernel
theorem dX2_empty_0 : decode cX2_empty 0 = .ok (.aload_n 0, 1) := by decide +kernel
theorem dX2_empty_1 : decode cX2_empty 1 = .ok (.iconst 0, 1) := by decide +kernel
theorem dX2_empty_2 : decode cX2_empty 2 = .ok (.putfield 9, 3) := by decide +kernel
theorem dX2_empty_5 : decode cX2_empty 5 = .ok (.return_, 1) := by decide +kernel
theorem dX2_copyFrom_0 : decode cX2_copyFrom 0 = .ok (.aload_n 0, 1) := by decide +kernel
theorem dX2_copyFrom_1 : decode cX2_copyFrom 1 = .ok (.aload_n 1, 1) := by decide +kernel
theorem dX2_copyFrom_2 : decode cX2_copyFrom 2 = .ok (.getfield 9, 3) := by decide +kernel
theorem dX2_copyFrom_5 : decode cX2_copyFrom 5 = .ok (.putfield 9, 3) := by decide +kernel
theorem dX2_copyFrom_8 : decode cX2_copyFrom 8 = .ok (.aload_n 0, 1) := by decide +kernel
theorem dX2_copyFrom_9 : decode cX2_copyFrom 9 = .ok (.aload_n 1, 1) := by decide +kernel
theorem dX2_copyFrom_10 : decode cX2_copyFrom 10 = .ok (.getfield 15, 3) := by decide +kernel
theorem dX2_copyFrom_13 : decode cX2_copyFrom 13 = .ok (.putfield 15, 3) := by decide +kernel
theorem dX2_copyFrom_16 : decode cX2_copyFrom 16 = .ok (.iconst 0, 1) := by decide +kernel
theorem dX2_copyFrom_17 : decode cX2_copyFrom 17 = .ok (.istore_n 2, 1) := by decide +kernel
theorem dX2_copyFrom_18 : decode cX2_copyFrom 18 = .ok (.iload_n 2, 1) := by decide +kernel
theorem dX2_copyFrom_19 : decode cX2_copyFrom 19 = .ok (.aload_n 0, 1) := by decide +kernel
theorem dX2_copyFrom_20 : decode cX2_copyFrom 20 = .ok (.getfield 9, 3) := by decide +kernel
theorem dX2_copyFrom_23 : decode cX2_copyFrom 23 = .ok (.if_icmp .ge 87, 3) := by decide +kernel
theorem dX2_copyFrom_26 : decode cX2_copyFrom 26 = .ok (.iload_n 2, 1) := by decide +kernel
theorem dX2_copyFrom_27 : decode cX2_copyFrom 27 = .ok (.bipush 40, 2) := by decide +kernel
theorem dX2_copyFrom_29 : decode cX2_copyFrom 29 = .ok (.if_icmp .ge 81, 3) := by decide +kernel
theorem dX2_copyFrom_32 : decode cX2_copyFrom 32 = .ok (.aload_n 0, 1) := by decide +kernel
theorem dX2_copyFrom_33 : decode cX2_copyFrom 33 = .ok (.getfield 22, 3) := by decide +kernel
theorem dX2_copyFrom_36 : decode cX2_copyFrom 36 = .ok (.iload_n 2, 1) := by decide +kernel
theorem dX2_copyFrom_37 : decode cX2_copyFrom 37 = .ok (.aload_n 1, 1) := by decide +kernel
theorem dX2_copyFrom_38 : decode cX2_copyFrom 38 = .ok (.getfield 22, 3) := by decide +kernel
theorem dX2_copyFrom_41 : decode cX2_copyFrom 41 = .ok (.iload_n 2, 1) := by decide +kernel
theorem dX2_copyFrom_42 : decode cX2_copyFrom 42 = .ok (.iaload, 1) := by decide +kernel
theorem dX2_copyFrom_43 : decode cX2_copyFrom 43 = .ok (.iastore, 1) := by decide +kernel
theorem dX2_copyFrom_44 : decode cX2_copyFrom 44 = .ok (.aload_n 0, 1) := by decide +kernel
theorem dX2_copyFrom_45 : decode cX2_copyFrom 45 = .ok (.getfield 26, 3) := by decide +kernel
theorem dX2_copyFrom_48 : decode cX2_copyFrom 48 = .ok (.iload_n 2, 1) := by decide +kernel
theorem dX2_copyFrom_49 : decode cX2_copyFrom 49 = .ok (.aload_n 1, 1) := by decide +kernel
theorem dX2_copyFrom_50 : decode cX2_copyFrom 50 = .ok (.getfield 26, 3) := by decide +kernel
theorem dX2_copyFrom_53 : decode cX2_copyFrom 53 = .ok (.iload_n 2, 1) := by decide +kernel
theorem dX2_copyFrom_54 : decode cX2_copyFrom 54 = .ok (.iaload, 1) := by decide +kernel
theorem dX2_copyFrom_55 : decode cX2_copyFrom 55 = .ok (.iastore, 1) := by decide +kernel
theorem dX2_copyFrom_56 : decode cX2_copyFrom 56 = .ok (.aload_n 0, 1) := by decide +kernel
theorem dX2_copyFrom_57 : decode cX2_copyFrom 57 = .ok (.getfield 29, 3) := by decide +kernel
theorem dX2_copyFrom_60 : decode cX2_copyFrom 60 = .ok (.iload_n 2, 1) := by decide +kernel
theorem dX2_copyFrom_61 : decode cX2_copyFrom 61 = .ok (.aload_n 1, 1) := by decide +kernel
theorem dX2_copyFrom_62 : decode cX2_copyFrom 62 = .ok (.getfield 29, 3) := by decide +kernel
theorem dX2_copyFrom_65 : decode cX2_copyFrom 65 = .ok (.iload_n 2, 1) := by decide +kernel
theorem dX2_copyFrom_66 : decode cX2_copyFrom 66 = .ok (.iaload, 1) := by decide +kernel
theorem dX2_copyFrom_67 : decode cX2_copyFrom 67 = .ok (.iastore, 1) := by decide +kernel
theorem dX2_copyFrom_68 : decode cX2_copyFrom 68 = .ok (.aload_n 0, 1) := by decide +kernel
theorem dX2_copyFrom_69 : decode cX2_copyFrom 69 = .ok (.getfield 32, 3) := by decide +kernel
theorem dX2_copyFrom_72 : decode cX2_copyFrom 72 = .ok (.iload_n 2, 1) := by decide +kernel
theorem dX2_copyFrom_73 : decode cX2_copyFrom 73 = .ok (.aload_n 1, 1) := by decide +kernel
theorem dX2_copyFrom_74 : decode cX2_copyFrom 74 = .ok (.getfield 32, 3) := by decide +kernel
theorem dX2_copyFrom_77 : decode cX2_copyFrom 77 = .ok (.iload_n 2, 1) := by decide +kernel
theorem dX2_copyFrom_78 : decode cX2_copyFrom 78 = .ok (.iaload, 1) := by decide +kernel
theorem dX2_copyFrom_79 : decode cX2_copyFrom 79 = .ok (.iastore, 1) := by decide +kernel
theorem dX2_copyFrom_80 : decode cX2_copyFrom 80 = .ok (.aload_n 0, 1) := by decide +kernel
theorem dX2_copyFrom_81 : decode cX2_copyFrom 81 = .ok (.getfield 35, 3) := by decide +kernel
theorem dX2_copyFrom_84 : decode cX2_copyFrom 84 = .ok (.iload_n 2, 1) := by decide +kernel
theorem dX2_copyFrom_85 : decode cX2_copyFrom 85 = .ok (.aload_n 1, 1) := by decide +kernel
theorem dX2_copyFrom_86 : decode cX2_copyFrom 86 = .ok (.getfield 35, 3) := by decide +kernel
theorem dX2_copyFrom_89 : decode cX2_copyFrom 89 = .ok (.iload_n 2, 1) := by decide +kernel
theorem dX2_copyFrom_90 : decode cX2_copyFrom 90 = .ok (.iaload, 1) := by decide +kernel
theorem dX2_copyFrom_91 : decode cX2_copyFrom 91 = .ok (.iastore, 1) := by decide +kernel
theorem dX2_copyFrom_92 : decode cX2_copyFrom 92 = .ok (.aload_n 0, 1) := by decide +kernel
theorem dX2_copyFrom_93 : decode cX2_copyFrom 93 = .ok (.getfield 38, 3) := by decide +kernel
theorem dX2_copyFrom_96 : decode cX2_copyFrom 96 = .ok (.iload_n 2, 1) := by decide +kernel
theorem dX2_copyFrom_97 : decode cX2_copyFrom 97 = .ok (.aload_n 1, 1) := by decide +kernel
theorem dX2_copyFrom_98 : decode cX2_copyFrom 98 = .ok (.getfield 38, 3) := by decide +kernel
theorem dX2_copyFrom_101 : decode cX2_copyFrom 101 = .ok (.iload_n 2, 1) := by decide +kernel
theorem dX2_copyFrom_102 : decode cX2_copyFrom 102 = .ok (.iaload, 1) := by decide +kernel
theorem dX2_copyFrom_103 : decode cX2_copyFrom 103 = .ok (.iastore, 1) := by decide +kernel
theorem dX2_copyFrom_104 : decode cX2_copyFrom 104 = .ok (.iinc 2 1, 3) := by decide +kernel
theorem dX2_copyFrom_107 : decode cX2_copyFrom 107 = .ok (.goto (-89), 3) := by decide +kernel
theorem dX2_copyFrom_110 : decode cX2_copyFrom 110 = .ok (.return_, 1) := by decide +kernel
theorem dX2_tell_0 : decode cX2_tell 0 = .ok (.aload_n 0, 1) := by decide +kernel
theorem dX2_tell_1 : decode cX2_tell 1 = .ok (.getfield 9, 3) := by decide +kernel
theorem dX2_tell_4 : decode cX2_tell 4 = .ok (.bipush 40, 2) := by decide +kernel
theorem dX2_tell_6 : decode cX2_tell 6 = .ok (.if_icmp .lt 5, 3) := by decide +kernel
theorem dX2_tell_9 : decode cX2_tell 9 = .ok (.iconst (-1), 1) := by decide +kernel
theorem dX2_tell_10 : decode cX2_tell 10 = .ok (.ireturn, 1) := by decide +kernel
theorem dX2_tell_11 : decode cX2_tell 11 = .ok (.aload_n 0, 1) := by decide +kernel
theorem dX2_tell_12 : decode cX2_tell 12 = .ok (.getfield 22, 3) := by decide +kernel
theorem dX2_tell_15 : decode cX2_tell 15 = .ok (.aload_n 0, 1) := by decide +kernel
theorem dX2_tell_16 : decode cX2_tell 16 = .ok (.getfield 9, 3) := by decide +kernel
theorem dX2_tell_19 : decode cX2_tell 19 = .ok (.iload_n 1, 1) := by decide +kernel
theorem dX2_tell_20 : decode cX2_tell 20 = .ok (.iastore, 1) := by decide +kernel
theorem dX2_tell_21 : decode cX2_tell 21 = .ok (.aload_n 0, 1) := by decide +kernel
theorem dX2_tell_22 : decode cX2_tell 22 = .ok (.getfield 26, 3) := by decide +kernel
theorem dX2_tell_25 : decode cX2_tell 25 = .ok (.aload_n 0, 1) := by decide +kernel
theorem dX2_tell_26 : decode cX2_tell 26 = .ok (.getfield 9, 3) := by decide +kernel
theorem dX2_tell_29 : decode cX2_tell 29 = .ok (.iload_n 2, 1) := by decide +kernel
theorem dX2_tell_30 : decode cX2_tell 30 = .ok (.iastore, 1) := by decide +kernel
theorem dX2_tell_31 : decode cX2_tell 31 = .ok (.aload_n 0, 1) := by decide +kernel
theorem dX2_tell_32 : decode cX2_tell 32 = .ok (.getfield 29, 3) := by decide +kernel
theorem dX2_tell_35 : decode cX2_tell 35 = .ok (.aload_n 0, 1) := by decide +kernel
theorem dX2_tell_36 : decode cX2_tell 36 = .ok (.getfield 9, 3) := by decide +kernel
theorem dX2_tell_39 : decode cX2_tell 39 = .ok (.iload_n 3, 1) := by decide +kernel
theorem dX2_tell_40 : decode cX2_tell 40 = .ok (.iastore, 1) := by decide +kernel
theorem dX2_tell_41 : decode cX2_tell 41 = .ok (.aload_n 0, 1) := by decide +kernel
theorem dX2_tell_42 : decode cX2_tell 42 = .ok (.getfield 32, 3) := by decide +kernel
theorem dX2_tell_45 : decode cX2_tell 45 = .ok (.aload_n 0, 1) := by decide +kernel
theorem dX2_tell_46 : decode cX2_tell 46 = .ok (.getfield 9, 3) := by decide +kernel
theorem dX2_tell_49 : decode cX2_tell 49 = .ok (.iload 4, 2) := by decide +kernel
theorem dX2_tell_51 : decode cX2_tell 51 = .ok (.iastore, 1) := by decide +kernel
theorem dX2_tell_52 : decode cX2_tell 52 = .ok (.aload_n 0, 1) := by decide +kernel
theorem dX2_tell_53 : decode cX2_tell 53 = .ok (.getfield 35, 3) := by decide +kernel
theorem dX2_tell_56 : decode cX2_tell 56 = .ok (.aload_n 0, 1) := by decide +kernel
theorem dX2_tell_57 : decode cX2_tell 57 = .ok (.getfield 9, 3) := by decide +kernel
theorem dX2_tell_60 : decode cX2_tell 60 = .ok (.aload_n 0, 1) := by decide +kernel
theorem dX2_tell_61 : decode cX2_tell 61 = .ok (.getfield 15, 3) := by decide +kernel
theorem dX2_tell_64 : decode cX2_tell 64 = .ok (.iastore, 1) := by decide +kernel
theorem dX2_tell_65 : decode cX2_tell 65 = .ok (.aload_n 0, 1) := by decide +kernel
theorem dX2_tell_66 : decode cX2_tell 66 = .ok (.getfield 38, 3) := by decide +kernel
theorem dX2_tell_69 : decode cX2_tell 69 = .ok (.aload_n 0, 1) := by decide +kernel
theorem dX2_tell_70 : decode cX2_tell 70 = .ok (.getfield 9, 3) := by decide +kernel
theorem dX2_tell_73 : decode cX2_tell 73 = .ok (.iconst (-1), 1) := by decide +kernel
theorem dX2_tell_74 : decode cX2_tell 74 = .ok (.iastore, 1) := by decide +kernel
theorem dX2_tell_75 : decode cX2_tell 75 = .ok (.aload_n 0, 1) := by decide +kernel
theorem dX2_tell_76 : decode cX2_tell 76 = .ok (.dup, 1) := by decide +kernel
theorem dX2_tell_77 : decode cX2_tell 77 = .ok (.getfield 9, 3) := by decide +kernel
theorem dX2_tell_80 : decode cX2_tell 80 = .ok (.iconst 1, 1) := by decide +kernel
theorem dX2_tell_81 : decode cX2_tell 81 = .ok (.iadd, 1) := by decide +kernel
theorem dX2_tell_82 : decode cX2_tell 82 = .ok (.putfield 9, 3) := by decide +kernel
theorem dX2_tell_85 : decode cX2_tell 85 = .ok (.aload_n 0, 1) := by decide +kernel
theorem dX2_tell_86 : decode cX2_tell 86 = .ok (.getfield 9, 3) := by decide +kernel
theorem dX2_tell_89 : decode cX2_tell 89 = .ok (.iconst 1, 1) := by decide +kernel
theorem dX2_tell_90 : decode cX2_tell 90 = .ok (.isub, 1) := by decide +kernel
theorem dX2_tell_91 : decode cX2_tell 91 = .ok (.ireturn, 1) := by decide +kernel
theorem dX2_takeBack_0 : decode cX2_takeBack 0 = .ok (.aload_n 0, 1) := by decide +kernel
theorem dX2_takeBack_1 : decode cX2_takeBack 1 = .ok (.iload_n 1, 1) := by decide +kernel
theorem dX2_takeBack_2 : decode cX2_takeBack 2 = .ok (.invokevirtual 41, 3) := by decide +kernel
theorem dX2_takeBack_5 : decode cX2_takeBack 5 = .ok (.ifCond .eq 13, 3) := by decide +kernel
theorem dX2_takeBack_8 : decode cX2_takeBack 8 = .ok (.aload_n 0, 1) := by decide +kernel
theorem dX2_takeBack_9 : decode cX2_takeBack 9 = .ok (.getfield 38, 3) := by decide +kernel
theorem dX2_takeBack_12 : decode cX2_takeBack 12 = .ok (.iload_n 1, 1) := by decide +kernel
theorem dX2_takeBack_13 : decode cX2_takeBack 13 = .ok (.iaload, 1) := by decide +kernel
theorem dX2_takeBack_14 : decode cX2_takeBack 14 = .ok (.iconst (-1), 1) := by decide +kernel
theorem dX2_takeBack_15 : decode cX2_takeBack 15 = .ok (.if_icmp .eq 5, 3) := by decide +kernel
theorem dX2_takeBack_18 : decode cX2_takeBack 18 = .ok (.iconst 0, 1) := by decide +kernel
theorem dX2_takeBack_19 : decode cX2_takeBack 19 = .ok (.ireturn, 1) := by decide +kernel
theorem dX2_takeBack_20 : decode cX2_takeBack 20 = .ok (.aload_n 0, 1) := by decide +kernel
theorem dX2_takeBack_21 : decode cX2_takeBack 21 = .ok (.getfield 38, 3) := by decide +kernel
theorem dX2_takeBack_24 : decode cX2_takeBack 24 = .ok (.iload_n 1, 1) := by decide +kernel
theorem dX2_takeBack_25 : decode cX2_takeBack 25 = .ok (.aload_n 0, 1) := by decide +kernel
theorem dX2_takeBack_26 : decode cX2_takeBack 26 = .ok (.getfield 15, 3) := by decide +kernel
theorem dX2_takeBack_29 : decode cX2_takeBack 29 = .ok (.iastore, 1) := by decide +kernel
theorem dX2_takeBack_30 : decode cX2_takeBack 30 = .ok (.iconst 1, 1) := by decide +kernel
theorem dX2_takeBack_31 : decode cX2_takeBack 31 = .ok (.ireturn, 1) := by decide +kernel
theorem dX2_has_0 : decode cX2_has 0 = .ok (.iload_n 1, 1) := by decide +kernel
theorem dX2_has_1 : decode cX2_has 1 = .ok (.ifCond .lt 21, 3) := by decide +kernel
theorem dX2_has_4 : decode cX2_has 4 = .ok (.iload_n 1, 1) := by decide +kernel
theorem dX2_has_5 : decode cX2_has 5 = .ok (.aload_n 0, 1) := by decide +kernel
theorem dX2_has_6 : decode cX2_has 6 = .ok (.getfield 9, 3) := by decide +kernel
theorem dX2_has_9 : decode cX2_has 9 = .ok (.if_icmp .ge 13, 3) := by decide +kernel
theorem dX2_has_12 : decode cX2_has 12 = .ok (.iload_n 1, 1) := by decide +kernel
theorem dX2_has_13 : decode cX2_has 13 = .ok (.bipush 40, 2) := by decide +kernel
theorem dX2_has_15 : decode cX2_has 15 = .ok (.if_icmp .ge 7, 3) := by decide +kernel
theorem dX2_has_18 : decode cX2_has 18 = .ok (.iconst 1, 1) := by decide +kernel
theorem dX2_has_19 : decode cX2_has 19 = .ok (.goto 4, 3) := by decide +kernel
theorem dX2_has_22 : decode cX2_has 22 = .ok (.iconst 0, 1) := by decide +kernel
theorem dX2_has_23 : decode cX2_has 23 = .ok (.ireturn, 1) := by decide +kernel
theorem dX2_counts_0 : decode cX2_counts 0 = .ok (.aload_n 0, 1) := by decide +kernel
theorem dX2_counts_1 : decode cX2_counts 1 = .ok (.iload_n 1, 1) := by decide +kernel
theorem dX2_counts_2 : decode cX2_counts 2 = .ok (.invokevirtual 41, 3) := by decide +kernel
theorem dX2_counts_5 : decode cX2_counts 5 = .ok (.ifCond .eq 37, 3) := by decide +kernel
theorem dX2_counts_8 : decode cX2_counts 8 = .ok (.aload_n 0, 1) := by decide +kernel
theorem dX2_counts_9 : decode cX2_counts 9 = .ok (.getfield 35, 3) := by decide +kernel
theorem dX2_counts_12 : decode cX2_counts 12 = .ok (.iload_n 1, 1) := by decide +kernel
theorem dX2_counts_13 : decode cX2_counts 13 = .ok (.iaload, 1) := by decide +kernel
theorem dX2_counts_14 : decode cX2_counts 14 = .ok (.iload_n 2, 1) := by decide +kernel
theorem dX2_counts_15 : decode cX2_counts 15 = .ok (.if_icmp .gt 27, 3) := by decide +kernel
theorem dX2_counts_18 : decode cX2_counts 18 = .ok (.aload_n 0, 1) := by decide +kernel
theorem dX2_counts_19 : decode cX2_counts 19 = .ok (.getfield 38, 3) := by decide +kernel
theorem dX2_counts_22 : decode cX2_counts 22 = .ok (.iload_n 1, 1) := by decide +kernel
theorem dX2_counts_23 : decode cX2_counts 23 = .ok (.iaload, 1) := by decide +kernel
theorem dX2_counts_24 : decode cX2_counts 24 = .ok (.iconst (-1), 1) := by decide +kernel
theorem dX2_counts_25 : decode cX2_counts 25 = .ok (.if_icmp .eq 13, 3) := by decide +kernel
theorem dX2_counts_28 : decode cX2_counts 28 = .ok (.aload_n 0, 1) := by decide +kernel
theorem dX2_counts_29 : decode cX2_counts 29 = .ok (.getfield 38, 3) := by decide +kernel
theorem dX2_counts_32 : decode cX2_counts 32 = .ok (.iload_n 1, 1) := by decide +kernel
theorem dX2_counts_33 : decode cX2_counts 33 = .ok (.iaload, 1) := by decide +kernel
theorem dX2_counts_34 : decode cX2_counts 34 = .ok (.iload_n 2, 1) := by decide +kernel
theorem dX2_counts_35 : decode cX2_counts 35 = .ok (.if_icmp .le 7, 3) := by decide +kernel
theorem dX2_counts_38 : decode cX2_counts 38 = .ok (.iconst 1, 1) := by decide +kernel
theorem dX2_counts_39 : decode cX2_counts 39 = .ok (.goto 4, 3) := by decide +kernel
theorem dX2_counts_42 : decode cX2_counts 42 = .ok (.iconst 0, 1) := by decide +kernel
theorem dX2_counts_43 : decode cX2_counts 43 = .ok (.ireturn, 1) := by decide +kernel
theorem dX2_faceOf_0 : decode cX2_faceOf 0 = .ok (.aload_n 0, 1) := by decide +kernel
theorem dX2_faceOf_1 : decode cX2_faceOf 1 = .ok (.iload_n 1, 1) := by decide +kernel
theorem dX2_faceOf_2 : decode cX2_faceOf 2 = .ok (.invokevirtual 41, 3) := by decide +kernel
theorem dX2_faceOf_5 : decode cX2_faceOf 5 = .ok (.ifCond .eq 12, 3) := by decide +kernel
theorem dX2_faceOf_8 : decode cX2_faceOf 8 = .ok (.aload_n 0, 1) := by decide +kernel
theorem dX2_faceOf_9 : decode cX2_faceOf 9 = .ok (.getfield 22, 3) := by decide +kernel
theorem dX2_faceOf_12 : decode cX2_faceOf 12 = .ok (.iload_n 1, 1) := by decide +kernel
theorem dX2_faceOf_13 : decode cX2_faceOf 13 = .ok (.iaload, 1) := by decide +kernel
theorem dX2_faceOf_14 : decode cX2_faceOf 14 = .ok (.goto 4, 3) := by decide +kernel
theorem dX2_faceOf_17 : decode cX2_faceOf 17 = .ok (.iconst (-1), 1) := by decide +kernel
theorem dX2_faceOf_18 : decode cX2_faceOf 18 = .ok (.ireturn, 1) := by decide +kernel
theorem dX2_otherOf_0 : decode cX2_otherOf 0 = .ok (.aload_n 0, 1) := by decide +kernel
theorem dX2_otherOf_1 : decode cX2_otherOf 1 = .ok (.iload_n 1, 1) := by decide +kernel
theorem dX2_otherOf_2 : decode cX2_otherOf 2 = .ok (.invokevirtual 41, 3) := by decide +kernel
theorem dX2_otherOf_5 : decode cX2_otherOf 5 = .ok (.ifCond .eq 12, 3) := by decide +kernel
theorem dX2_otherOf_8 : decode cX2_otherOf 8 = .ok (.aload_n 0, 1) := by decide +kernel
theorem dX2_otherOf_9 : decode cX2_otherOf 9 = .ok (.getfield 26, 3) := by decide +kernel
theorem dX2_otherOf_12 : decode cX2_otherOf 12 = .ok (.iload_n 1, 1) := by decide +kernel
theorem dX2_otherOf_13 : decode cX2_otherOf 13 = .ok (.iaload, 1) := by decide +kernel
theorem dX2_otherOf_14 : decode cX2_otherOf 14 = .ok (.goto 4, 3) := by decide +kernel
theorem dX2_otherOf_17 : decode cX2_otherOf 17 = .ok (.iconst (-1), 1) := by decide +kernel
theorem dX2_otherOf_18 : decode cX2_otherOf 18 = .ok (.ireturn, 1) := by decide +kernel
theorem dX2_shareOf_0 : decode cX2_shareOf 0 = .ok (.aload_n 0, 1) := by decide +kernel
theorem dX2_shareOf_1 : decode cX2_shareOf 1 = .ok (.iload_n 1, 1) := by decide +kernel
theorem dX2_shareOf_2 : decode cX2_shareOf 2 = .ok (.invokevirtual 41, 3) := by decide +kernel
theorem dX2_shareOf_5 : decode cX2_shareOf 5 = .ok (.ifCond .eq 12, 3) := by decide +kernel
theorem dX2_shareOf_8 : decode cX2_shareOf 8 = .ok (.aload_n 0, 1) := by decide +kernel
theorem dX2_shareOf_9 : decode cX2_shareOf 9 = .ok (.getfield 29, 3) := by decide +kernel
theorem dX2_shareOf_12 : decode cX2_shareOf 12 = .ok (.iload_n 1, 1) := by decide +kernel
theorem dX2_shareOf_13 : decode cX2_shareOf 13 = .ok (.iaload, 1) := by decide +kernel
theorem dX2_shareOf_14 : decode cX2_shareOf 14 = .ok (.goto 4, 3) := by decide +kernel
theorem dX2_shareOf_17 : decode cX2_shareOf 17 = .ok (.iconst 0, 1) := by decide +kernel
theorem dX2_shareOf_18 : decode cX2_shareOf 18 = .ok (.ireturn, 1) := by decide +kernel
theorem dX2_yearOf_0 : decode cX2_yearOf 0 = .ok (.aload_n 0, 1) := by decide +kernel
theorem dX2_yearOf_1 : decode cX2_yearOf 1 = .ok (.iload_n 1, 1) := by decide +kernel
theorem dX2_yearOf_2 : decode cX2_yearOf 2 = .ok (.invokevirtual 41, 3) := by decide +kernel
theorem dX2_yearOf_5 : decode cX2_yearOf 5 = .ok (.ifCond .eq 15, 3) := by decide +kernel
theorem dX2_yearOf_8 : decode cX2_yearOf 8 = .ok (.aload_n 0, 1) := by decide +kernel
theorem dX2_yearOf_9 : decode cX2_yearOf 9 = .ok (.getfield 32, 3) := by decide +kernel
theorem dX2_yearOf_12 : decode cX2_yearOf 12 = .ok (.iload_n 1, 1) := by decide +kernel
theorem dX2_yearOf_13 : decode cX2_yearOf 13 = .ok (.iaload, 1) := by decide +kernel
theorem dX2_yearOf_14 : decode cX2_yearOf 14 = .ok (.bipush 100, 2) := by decide +kernel
theorem dX2_yearOf_16 : decode cX2_yearOf 16 = .ok (.idiv, 1) := by decide +kernel
theorem dX2_yearOf_17 : decode cX2_yearOf 17 = .ok (.goto 4, 3) := by decide +kernel
theorem dX2_yearOf_20 : decode cX2_yearOf 20 = .ok (.iconst 0, 1) := by decide +kernel
theorem dX2_yearOf_21 : decode cX2_yearOf 21 = .ok (.ireturn, 1) := by decide +kernel
theorem dX2_printerOf_0 : decode cX2_printerOf 0 = .ok (.aload_n 0, 1) := by decide +kernel
theorem dX2_printerOf_1 : decode cX2_printerOf 1 = .ok (.iload_n 1, 1) := by decide +kernel
theorem dX2_printerOf_2 : decode cX2_printerOf 2 = .ok (.invokevirtual 41, 3) := by decide +kernel
theorem dX2_printerOf_5 : decode cX2_printerOf 5 = .ok (.ifCond .eq 18, 3) := by decide +kernel
theorem dX2_printerOf_8 : decode cX2_printerOf 8 = .ok (.aload_n 0, 1) := by decide +kernel
theorem dX2_printerOf_9 : decode cX2_printerOf 9 = .ok (.getfield 32, 3) := by decide +kernel
theorem dX2_printerOf_12 : decode cX2_printerOf 12 = .ok (.iload_n 1, 1) := by decide +kernel
theorem dX2_printerOf_13 : decode cX2_printerOf 13 = .ok (.iaload, 1) := by decide +kernel
theorem dX2_printerOf_14 : decode cX2_printerOf 14 = .ok (.bipush 10, 2) := by decide +kernel
theorem dX2_printerOf_16 : decode cX2_printerOf 16 = .ok (.idiv, 1) := by decide +kernel
theorem dX2_printerOf_17 : decode cX2_printerOf 17 = .ok (.bipush 10, 2) := by decide +kernel
theorem dX2_printerOf_19 : decode cX2_printerOf 19 = .ok (.irem, 1) := by decide +kernel
theorem dX2_printerOf_20 : decode cX2_printerOf 20 = .ok (.goto 4, 3) := by decide +kernel
theorem dX2_printerOf_23 : decode cX2_printerOf 23 = .ok (.iconst (-1), 1) := by decide +kernel
theorem dX2_printerOf_24 : decode cX2_printerOf 24 = .ok (.ireturn, 1) := by decide +kernel
theorem dX2_streetOf_0 : decode cX2_streetOf 0 = .ok (.aload_n 0, 1) := by decide +kernel
theorem dX2_streetOf_1 : decode cX2_streetOf 1 = .ok (.iload_n 1, 1) := by decide +kernel
theorem dX2_streetOf_2 : decode cX2_streetOf 2 = .ok (.invokevirtual 41, 3) := by decide +kernel
theorem dX2_streetOf_5 : decode cX2_streetOf 5 = .ok (.ifCond .eq 15, 3) := by decide +kernel
theorem dX2_streetOf_8 : decode cX2_streetOf 8 = .ok (.aload_n 0, 1) := by decide +kernel
theorem dX2_streetOf_9 : decode cX2_streetOf 9 = .ok (.getfield 32, 3) := by decide +kernel
theorem dX2_streetOf_12 : decode cX2_streetOf 12 = .ok (.iload_n 1, 1) := by decide +kernel
theorem dX2_streetOf_13 : decode cX2_streetOf 13 = .ok (.iaload, 1) := by decide +kernel
theorem dX2_streetOf_14 : decode cX2_streetOf 14 = .ok (.bipush 10, 2) := by decide +kernel
theorem dX2_streetOf_16 : decode cX2_streetOf 16 = .ok (.irem, 1) := by decide +kernel
theorem dX2_streetOf_17 : decode cX2_streetOf 17 = .ok (.goto 4, 3) := by decide +kernel
theorem dX2_streetOf_20 : decode cX2_streetOf 20 = .ok (.iconst (-1), 1) := by decide +kernel
theorem dX2_streetOf_21 : decode cX2_streetOf 21 = .ok (.ireturn, 1) := by decide +kernel
theorem dX2_isMixed_0 : decode cX2_isMixed 0 = .ok (.aload_n 0, 1) := by decide +kernel
theorem dX2_isMixed_1 : decode cX2_isMixed 1 = .ok (.iload_n 1, 1) := by decide +kernel
theorem dX2_isMixed_2 : decode cX2_isMixed 2 = .ok (.invokevirtual 45, 3) := by decide +kernel
theorem dX2_isMixed_5 : decode cX2_isMixed 5 = .ok (.istore_n 2, 1) := by decide +kernel
theorem dX2_isMixed_6 : decode cX2_isMixed 6 = .ok (.aload_n 0, 1) := by decide +kernel
theorem dX2_isMixed_7 : decode cX2_isMixed 7 = .ok (.iload_n 1, 1) := by decide +kernel
theorem dX2_isMixed_8 : decode cX2_isMixed 8 = .ok (.invokevirtual 49, 3) := by decide +kernel
theorem dX2_isMixed_11 : decode cX2_isMixed 11 = .ok (.aload_n 0, 1) := by decide +kernel
theorem dX2_isMixed_12 : decode cX2_isMixed 12 = .ok (.iload_n 1, 1) := by decide +kernel
theorem dX2_isMixed_13 : decode cX2_isMixed 13 = .ok (.invokevirtual 52, 3) := by decide +kernel
theorem dX2_isMixed_16 : decode cX2_isMixed 16 = .ok (.if_icmp .eq 18, 3) := by decide +kernel
theorem dX2_isMixed_19 : decode cX2_isMixed 19 = .ok (.iload_n 2, 1) := by decide +kernel
theorem dX2_isMixed_20 : decode cX2_isMixed 20 = .ok (.iconst 1, 1) := by decide +kernel
theorem dX2_isMixed_21 : decode cX2_isMixed 21 = .ok (.if_icmp .lt 13, 3) := by decide +kernel
theorem dX2_isMixed_24 : decode cX2_isMixed 24 = .ok (.iload_n 2, 1) := by decide +kernel
theorem dX2_isMixed_25 : decode cX2_isMixed 25 = .ok (.bipush 10, 2) := by decide +kernel
theorem dX2_isMixed_27 : decode cX2_isMixed 27 = .ok (.if_icmp .ge 7, 3) := by decide +kernel
theorem dX2_isMixed_30 : decode cX2_isMixed 30 = .ok (.iconst 1, 1) := by decide +kernel
theorem dX2_isMixed_31 : decode cX2_isMixed 31 = .ok (.goto 4, 3) := by decide +kernel
theorem dX2_isMixed_34 : decode cX2_isMixed 34 = .ok (.iconst 0, 1) := by decide +kernel
theorem dX2_isMixed_35 : decode cX2_isMixed 35 = .ok (.ireturn, 1) := by decide +kernel
theorem dX3_init_0 : decode cX3_init 0 = .ok (.aload_n 0, 1) := by decide +kernel
theorem dX3_init_1 : decode cX3_init 1 = .ok (.invokespecial 3, 3) := by decide +kernel
theorem dX3_init_4 : decode cX3_init 4 = .ok (.aload_n 0, 1) := by decide +kernel
theorem dX3_init_5 : decode cX3_init 5 = .ok (.iconst 4, 1) := by decide +kernel
theorem dX3_init_6 : decode cX3_init 6 = .ok (.newarray .int, 2) := by decide +kernel
theorem dX3_init_8 : decode cX3_init 8 = .ok (.putfield 9, 3) := by decide +kernel
theorem dX3_init_11 : decode cX3_init 11 = .ok (.aload_n 0, 1) := by decide +kernel
theorem dX3_init_12 : decode cX3_init 12 = .ok (.sipush 801, 3) := by decide +kernel
theorem dX3_init_15 : decode cX3_init 15 = .ok (.newarray .int, 2) := by decide +kernel
theorem dX3_init_17 : decode cX3_init 17 = .ok (.putfield 15, 3) := by decide +kernel
theorem dX3_init_20 : decode cX3_init 20 = .ok (.aload_n 0, 1) := by decide +kernel
theorem dX3_init_21 : decode cX3_init 21 = .ok (.sipush 801, 3) := by decide +kernel
theorem dX3_init_24 : decode cX3_init 24 = .ok (.newarray .int, 2) := by decide +kernel
theorem dX3_init_26 : decode cX3_init 26 = .ok (.putfield 18, 3) := by decide +kernel
theorem dX3_init_29 : decode cX3_init 29 = .ok (.aload_n 0, 1) := by decide +kernel
theorem dX3_init_30 : decode cX3_init 30 = .ok (.aload_n 1, 1) := by decide +kernel
theorem dX3_init_31 : decode cX3_init 31 = .ok (.putfield 21, 3) := by decide +kernel
theorem dX3_init_34 : decode cX3_init 34 = .ok (.aload_n 0, 1) := by decide +kernel
theorem dX3_init_35 : decode cX3_init 35 = .ok (.aload_n 2, 1) := by decide +kernel
theorem dX3_init_36 : decode cX3_init 36 = .ok (.putfield 25, 3) := by decide +kernel
theorem dX3_init_39 : decode cX3_init 39 = .ok (.return_, 1) := by decide +kernel
theorem dX3_costOf_0 : decode cX3_costOf 0 = .ok (.iconst 0, 1) := by decide +kernel
theorem dX3_costOf_1 : decode cX3_costOf 1 = .ok (.istore 4, 2) := by decide +kernel
theorem dX3_costOf_3 : decode cX3_costOf 3 = .ok (.iload 4, 2) := by decide +kernel
theorem dX3_costOf_5 : decode cX3_costOf 5 = .ok (.iconst 4, 1) := by decide +kernel
theorem dX3_costOf_6 : decode cX3_costOf 6 = .ok (.if_icmp .ge 17, 3) := by decide +kernel
theorem dX3_costOf_9 : decode cX3_costOf 9 = .ok (.aload_n 0, 1) := by decide +kernel
theorem dX3_costOf_10 : decode cX3_costOf 10 = .ok (.getfield 9, 3) := by decide +kernel
theorem dX3_costOf_13 : decode cX3_costOf 13 = .ok (.iload 4, 2) := by decide +kernel
theorem dX3_costOf_15 : decode cX3_costOf 15 = .ok (.iload_n 1, 1) := by decide +kernel
theorem dX3_costOf_16 : decode cX3_costOf 16 = .ok (.iastore, 1) := by decide +kernel
theorem dX3_costOf_17 : decode cX3_costOf 17 = .ok (.iinc 4 1, 3) := by decide +kernel
theorem dX3_costOf_20 : decode cX3_costOf 20 = .ok (.goto (-17), 3) := by decide +kernel
theorem dX3_costOf_23 : decode cX3_costOf 23 = .ok (.iload_n 2, 1) := by decide +kernel
theorem dX3_costOf_24 : decode cX3_costOf 24 = .ok (.aload_n 0, 1) := by decide +kernel
theorem dX3_costOf_25 : decode cX3_costOf 25 = .ok (.invokevirtual 29, 3) := by decide +kernel
theorem dX3_costOf_28 : decode cX3_costOf 28 = .ok (.imul, 1) := by decide +kernel
theorem dX3_costOf_29 : decode cX3_costOf 29 = .ok (.iload_n 3, 1) := by decide +kernel
theorem dX3_costOf_30 : decode cX3_costOf 30 = .ok (.aload_n 0, 1) := by decide +kernel
theorem dX3_costOf_31 : decode cX3_costOf 31 = .ok (.iload_n 1, 1) := by decide +kernel
theorem dX3_costOf_32 : decode cX3_costOf 32 = .ok (.iconst (-1), 1) := by decide +kernel
theorem dX3_costOf_33 : decode cX3_costOf 33 = .ok (.invokevirtual 33, 3) := by decide +kernel
theorem dX3_costOf_36 : decode cX3_costOf 36 = .ok (.imul, 1) := by decide +kernel
theorem dX3_costOf_37 : decode cX3_costOf 37 = .ok (.iadd, 1) := by decide +kernel
theorem dX3_costOf_38 : decode cX3_costOf 38 = .ok (.ireturn, 1) := by decide +kernel
theorem dX3_cheapest_0 : decode cX3_cheapest 0 = .ok (.aload_n 0, 1) := by decide +kernel
theorem dX3_cheapest_1 : decode cX3_cheapest 1 = .ok (.invokevirtual 37, 3) := by decide +kernel
theorem dX3_cheapest_4 : decode cX3_cheapest 4 = .ok (.iconst 0, 1) := by decide +kernel
theorem dX3_cheapest_5 : decode cX3_cheapest 5 = .ok (.istore_n 3, 1) := by decide +kernel
theorem dX3_cheapest_6 : decode cX3_cheapest 6 = .ok (.iconst 0, 1) := by decide +kernel
theorem dX3_cheapest_7 : decode cX3_cheapest 7 = .ok (.istore 4, 2) := by decide +kernel
theorem dX3_cheapest_9 : decode cX3_cheapest 9 = .ok (.iconst 0, 1) := by decide +kernel
theorem dX3_cheapest_10 : decode cX3_cheapest 10 = .ok (.istore 5, 2) := by decide +kernel
theorem dX3_cheapest_12 : decode cX3_cheapest 12 = .ok (.aload_n 0, 1) := by decide +kernel
theorem dX3_cheapest_13 : decode cX3_cheapest 13 = .ok (.getfield 21, 3) := by decide +kernel
theorem dX3_cheapest_16 : decode cX3_cheapest 16 = .ok (.getfield 40, 3) := by decide +kernel
theorem dX3_cheapest_19 : decode cX3_cheapest 19 = .ok (.istore 6, 2) := by decide +kernel
theorem dX3_cheapest_21 : decode cX3_cheapest 21 = .ok (.iconst 0, 1) := by decide +kernel
theorem dX3_cheapest_22 : decode cX3_cheapest 22 = .ok (.istore 7, 2) := by decide +kernel
theorem dX3_cheapest_24 : decode cX3_cheapest 24 = .ok (.iload 7, 2) := by decide +kernel
theorem dX3_cheapest_26 : decode cX3_cheapest 26 = .ok (.sipush 800, 3) := by decide +kernel
theorem dX3_cheapest_29 : decode cX3_cheapest 29 = .ok (.if_icmp .gt 63, 3) := by decide +kernel
theorem dX3_cheapest_32 : decode cX3_cheapest 32 = .ok (.iload 5, 2) := by decide +kernel
theorem dX3_cheapest_34 : decode cX3_cheapest 34 = .ok (.aload_n 0, 1) := by decide +kernel
theorem dX3_cheapest_35 : decode cX3_cheapest 35 = .ok (.getfield 15, 3) := by decide +kernel
theorem dX3_cheapest_38 : decode cX3_cheapest 38 = .ok (.iload 7, 2) := by decide +kernel
theorem dX3_cheapest_40 : decode cX3_cheapest 40 = .ok (.iaload, 1) := by decide +kernel
theorem dX3_cheapest_41 : decode cX3_cheapest 41 = .ok (.iadd, 1) := by decide +kernel
theorem dX3_cheapest_42 : decode cX3_cheapest 42 = .ok (.istore 5, 2) := by decide +kernel
theorem dX3_cheapest_44 : decode cX3_cheapest 44 = .ok (.iload 6, 2) := by decide +kernel
theorem dX3_cheapest_46 : decode cX3_cheapest 46 = .ok (.aload_n 0, 1) := by decide +kernel
theorem dX3_cheapest_47 : decode cX3_cheapest 47 = .ok (.getfield 18, 3) := by decide +kernel
theorem dX3_cheapest_50 : decode cX3_cheapest 50 = .ok (.iload 7, 2) := by decide +kernel
theorem dX3_cheapest_52 : decode cX3_cheapest 52 = .ok (.iaload, 1) := by decide +kernel
theorem dX3_cheapest_53 : decode cX3_cheapest 53 = .ok (.isub, 1) := by decide +kernel
theorem dX3_cheapest_54 : decode cX3_cheapest 54 = .ok (.istore 6, 2) := by decide +kernel
theorem dX3_cheapest_56 : decode cX3_cheapest 56 = .ok (.iload_n 1, 1) := by decide +kernel
theorem dX3_cheapest_57 : decode cX3_cheapest 57 = .ok (.iload 5, 2) := by decide +kernel
theorem dX3_cheapest_59 : decode cX3_cheapest 59 = .ok (.imul, 1) := by decide +kernel
theorem dX3_cheapest_60 : decode cX3_cheapest 60 = .ok (.iload_n 2, 1) := by decide +kernel
theorem dX3_cheapest_61 : decode cX3_cheapest 61 = .ok (.iload 6, 2) := by decide +kernel
theorem dX3_cheapest_63 : decode cX3_cheapest 63 = .ok (.imul, 1) := by decide +kernel
theorem dX3_cheapest_64 : decode cX3_cheapest 64 = .ok (.iadd, 1) := by decide +kernel
theorem dX3_cheapest_65 : decode cX3_cheapest 65 = .ok (.istore 8, 2) := by decide +kernel
theorem dX3_cheapest_67 : decode cX3_cheapest 67 = .ok (.iload 7, 2) := by decide +kernel
theorem dX3_cheapest_69 : decode cX3_cheapest 69 = .ok (.ifCond .eq 10, 3) := by decide +kernel
theorem dX3_cheapest_72 : decode cX3_cheapest 72 = .ok (.iload 8, 2) := by decide +kernel
theorem dX3_cheapest_74 : decode cX3_cheapest 74 = .ok (.iload 4, 2) := by decide +kernel
theorem dX3_cheapest_76 : decode cX3_cheapest 76 = .ok (.if_icmp .ge 10, 3) := by decide +kernel
theorem dX3_cheapest_79 : decode cX3_cheapest 79 = .ok (.iload 7, 2) := by decide +kernel
theorem dX3_cheapest_81 : decode cX3_cheapest 81 = .ok (.istore_n 3, 1) := by decide +kernel
theorem dX3_cheapest_82 : decode cX3_cheapest 82 = .ok (.iload 8, 2) := by decide +kernel
theorem dX3_cheapest_84 : decode cX3_cheapest 84 = .ok (.istore 4, 2) := by decide +kernel
theorem dX3_cheapest_86 : decode cX3_cheapest 86 = .ok (.iinc 7 1, 3) := by decide +kernel
theorem dX3_cheapest_89 : decode cX3_cheapest 89 = .ok (.goto (-65), 3) := by decide +kernel
theorem dX3_cheapest_92 : decode cX3_cheapest 92 = .ok (.iload_n 3, 1) := by decide +kernel
theorem dX3_cheapest_93 : decode cX3_cheapest 93 = .ok (.ireturn, 1) := by decide +kernel
theorem dX3_countByFar_0 : decode cX3_countByFar 0 = .ok (.iconst 0, 1) := by decide +kernel
theorem dX3_countByFar_1 : decode cX3_countByFar 1 = .ok (.istore_n 1, 1) := by decide +kernel
theorem dX3_countByFar_2 : decode cX3_countByFar 2 = .ok (.iload_n 1, 1) := by decide +kernel
theorem dX3_countByFar_3 : decode cX3_countByFar 3 = .ok (.sipush 800, 3) := by decide +kernel
theorem dX3_countByFar_6 : decode cX3_countByFar 6 = .ok (.if_icmp .gt 23, 3) := by decide +kernel
theorem dX3_countByFar_9 : decode cX3_countByFar 9 = .ok (.aload_n 0, 1) := by decide +kernel
theorem dX3_countByFar_10 : decode cX3_countByFar 10 = .ok (.getfield 15, 3) := by decide +kernel
theorem dX3_countByFar_13 : decode cX3_countByFar 13 = .ok (.iload_n 1, 1) := by decide +kernel
theorem dX3_countByFar_14 : decode cX3_countByFar 14 = .ok (.iconst 0, 1) := by decide +kernel
theorem dX3_countByFar_15 : decode cX3_countByFar 15 = .ok (.iastore, 1) := by decide +kernel
theorem dX3_countByFar_16 : decode cX3_countByFar 16 = .ok (.aload_n 0, 1) := by decide +kernel
theorem dX3_countByFar_17 : decode cX3_countByFar 17 = .ok (.getfield 18, 3) := by decide +kernel
theorem dX3_countByFar_20 : decode cX3_countByFar 20 = .ok (.iload_n 1, 1) := by decide +kernel
theorem dX3_countByFar_21 : decode cX3_countByFar 21 = .ok (.iconst 0, 1) := by decide +kernel
theorem dX3_countByFar_22 : decode cX3_countByFar 22 = .ok (.iastore, 1) := by decide +kernel
theorem dX3_countByFar_23 : decode cX3_countByFar 23 = .ok (.iinc 1 1, 3) := by decide +kernel
theorem dX3_countByFar_26 : decode cX3_countByFar 26 = .ok (.goto (-24), 3) := by decide +kernel
theorem dX3_countByFar_29 : decode cX3_countByFar 29 = .ok (.iconst 0, 1) := by decide +kernel
theorem dX3_countByFar_30 : decode cX3_countByFar 30 = .ok (.istore_n 1, 1) := by decide +kernel
theorem dX3_countByFar_31 : decode cX3_countByFar 31 = .ok (.iload_n 1, 1) := by decide +kernel
theorem dX3_countByFar_32 : decode cX3_countByFar 32 = .ok (.aload_n 0, 1) := by decide +kernel
theorem dX3_countByFar_33 : decode cX3_countByFar 33 = .ok (.getfield 21, 3) := by decide +kernel
theorem dX3_countByFar_36 : decode cX3_countByFar 36 = .ok (.getfield 40, 3) := by decide +kernel
theorem dX3_countByFar_39 : decode cX3_countByFar 39 = .ok (.if_icmp .ge 87, 3) := by decide +kernel
theorem dX3_countByFar_42 : decode cX3_countByFar 42 = .ok (.iconst 0, 1) := by decide +kernel
theorem dX3_countByFar_43 : decode cX3_countByFar 43 = .ok (.istore_n 2, 1) := by decide +kernel
theorem dX3_countByFar_44 : decode cX3_countByFar 44 = .ok (.iload_n 2, 1) := by decide +kernel
theorem dX3_countByFar_45 : decode cX3_countByFar 45 = .ok (.aload_n 0, 1) := by decide +kernel
theorem dX3_countByFar_46 : decode cX3_countByFar 46 = .ok (.getfield 21, 3) := by decide +kernel
theorem dX3_countByFar_49 : decode cX3_countByFar 49 = .ok (.getfield 40, 3) := by decide +kernel
theorem dX3_countByFar_52 : decode cX3_countByFar 52 = .ok (.if_icmp .ge 68, 3) := by decide +kernel
theorem dX3_countByFar_55 : decode cX3_countByFar 55 = .ok (.aload_n 0, 1) := by decide +kernel
theorem dX3_countByFar_56 : decode cX3_countByFar 56 = .ok (.getfield 25, 3) := by decide +kernel
theorem dX3_countByFar_59 : decode cX3_countByFar 59 = .ok (.iload_n 1, 1) := by decide +kernel
theorem dX3_countByFar_60 : decode cX3_countByFar 60 = .ok (.iload_n 2, 1) := by decide +kernel
theorem dX3_countByFar_61 : decode cX3_countByFar 61 = .ok (.invokevirtual 46, 3) := by decide +kernel
theorem dX3_countByFar_64 : decode cX3_countByFar 64 = .ok (.istore_n 3, 1) := by decide +kernel
theorem dX3_countByFar_65 : decode cX3_countByFar 65 = .ok (.iload_n 3, 1) := by decide +kernel
theorem dX3_countByFar_66 : decode cX3_countByFar 66 = .ok (.ifCond .lt 48, 3) := by decide +kernel
theorem dX3_countByFar_69 : decode cX3_countByFar 69 = .ok (.iload_n 3, 1) := by decide +kernel
theorem dX3_countByFar_70 : decode cX3_countByFar 70 = .ok (.sipush 800, 3) := by decide +kernel
theorem dX3_countByFar_73 : decode cX3_countByFar 73 = .ok (.if_icmp .gt 41, 3) := by decide +kernel
theorem dX3_countByFar_76 : decode cX3_countByFar 76 = .ok (.aload_n 0, 1) := by decide +kernel
theorem dX3_countByFar_77 : decode cX3_countByFar 77 = .ok (.getfield 15, 3) := by decide +kernel
theorem dX3_countByFar_80 : decode cX3_countByFar 80 = .ok (.iload_n 3, 1) := by decide +kernel
theorem dX3_countByFar_81 : decode cX3_countByFar 81 = .ok (.dup2, 1) := by decide +kernel
theorem dX3_countByFar_82 : decode cX3_countByFar 82 = .ok (.iaload, 1) := by decide +kernel
theorem dX3_countByFar_83 : decode cX3_countByFar 83 = .ok (.iload_n 1, 1) := by decide +kernel
theorem dX3_countByFar_84 : decode cX3_countByFar 84 = .ok (.iload_n 2, 1) := by decide +kernel
theorem dX3_countByFar_85 : decode cX3_countByFar 85 = .ok (.if_icmp .ne 7, 3) := by decide +kernel
theorem dX3_countByFar_88 : decode cX3_countByFar 88 = .ok (.iconst 0, 1) := by decide +kernel
theorem dX3_countByFar_89 : decode cX3_countByFar 89 = .ok (.goto 4, 3) := by decide +kernel
theorem dX3_countByFar_92 : decode cX3_countByFar 92 = .ok (.iconst 1, 1) := by decide +kernel
theorem dX3_countByFar_93 : decode cX3_countByFar 93 = .ok (.iadd, 1) := by decide +kernel
theorem dX3_countByFar_94 : decode cX3_countByFar 94 = .ok (.iastore, 1) := by decide +kernel
theorem dX3_countByFar_95 : decode cX3_countByFar 95 = .ok (.aload_n 0, 1) := by decide +kernel
theorem dX3_countByFar_96 : decode cX3_countByFar 96 = .ok (.getfield 18, 3) := by decide +kernel
theorem dX3_countByFar_99 : decode cX3_countByFar 99 = .ok (.iload_n 3, 1) := by decide +kernel
theorem dX3_countByFar_100 : decode cX3_countByFar 100 = .ok (.dup2, 1) := by decide +kernel
theorem dX3_countByFar_101 : decode cX3_countByFar 101 = .ok (.iaload, 1) := by decide +kernel
theorem dX3_countByFar_102 : decode cX3_countByFar 102 = .ok (.iload_n 1, 1) := by decide +kernel
theorem dX3_countByFar_103 : decode cX3_countByFar 103 = .ok (.iload_n 2, 1) := by decide +kernel
theorem dX3_countByFar_104 : decode cX3_countByFar 104 = .ok (.if_icmp .ne 7, 3) := by decide +kernel
theorem dX3_countByFar_107 : decode cX3_countByFar 107 = .ok (.iconst 1, 1) := by decide +kernel
theorem dX3_countByFar_108 : decode cX3_countByFar 108 = .ok (.goto 4, 3) := by decide +kernel
theorem dX3_countByFar_111 : decode cX3_countByFar 111 = .ok (.iconst 0, 1) := by decide +kernel
theorem dX3_countByFar_112 : decode cX3_countByFar 112 = .ok (.iadd, 1) := by decide +kernel
theorem dX3_countByFar_113 : decode cX3_countByFar 113 = .ok (.iastore, 1) := by decide +kernel
theorem dX3_countByFar_114 : decode cX3_countByFar 114 = .ok (.iinc 2 1, 3) := by decide +kernel
theorem dX3_countByFar_117 : decode cX3_countByFar 117 = .ok (.goto (-73), 3) := by decide +kernel
theorem dX3_countByFar_120 : decode cX3_countByFar 120 = .ok (.iinc 1 1, 3) := by decide +kernel
theorem dX3_countByFar_123 : decode cX3_countByFar 123 = .ok (.goto (-92), 3) := by decide +kernel
theorem dX3_countByFar_126 : decode cX3_countByFar 126 = .ok (.return_, 1) := by decide +kernel
theorem dX3_falseByBars_0 : decode cX3_falseByBars 0 = .ok (.iconst 0, 1) := by decide +kernel
theorem dX3_falseByBars_1 : decode cX3_falseByBars 1 = .ok (.istore_n 1, 1) := by decide +kernel
theorem dX3_falseByBars_2 : decode cX3_falseByBars 2 = .ok (.iconst 0, 1) := by decide +kernel
theorem dX3_falseByBars_3 : decode cX3_falseByBars 3 = .ok (.istore_n 2, 1) := by decide +kernel
theorem dX3_falseByBars_4 : decode cX3_falseByBars 4 = .ok (.iload_n 2, 1) := by decide +kernel
theorem dX3_falseByBars_5 : decode cX3_falseByBars 5 = .ok (.aload_n 0, 1) := by decide +kernel
theorem dX3_falseByBars_6 : decode cX3_falseByBars 6 = .ok (.getfield 21, 3) := by decide +kernel
theorem dX3_falseByBars_9 : decode cX3_falseByBars 9 = .ok (.getfield 40, 3) := by decide +kernel
theorem dX3_falseByBars_12 : decode cX3_falseByBars 12 = .ok (.if_icmp .ge 41, 3) := by decide +kernel
theorem dX3_falseByBars_15 : decode cX3_falseByBars 15 = .ok (.aload_n 0, 1) := by decide +kernel
theorem dX3_falseByBars_16 : decode cX3_falseByBars 16 = .ok (.getfield 21, 3) := by decide +kernel
theorem dX3_falseByBars_19 : decode cX3_falseByBars 19 = .ok (.iload_n 2, 1) := by decide +kernel
theorem dX3_falseByBars_20 : decode cX3_falseByBars 20 = .ok (.invokevirtual 51, 3) := by decide +kernel
theorem dX3_falseByBars_23 : decode cX3_falseByBars 23 = .ok (.istore_n 3, 1) := by decide +kernel
theorem dX3_falseByBars_24 : decode cX3_falseByBars 24 = .ok (.iload_n 3, 1) := by decide +kernel
theorem dX3_falseByBars_25 : decode cX3_falseByBars 25 = .ok (.ifCond .lt 22, 3) := by decide +kernel
theorem dX3_falseByBars_28 : decode cX3_falseByBars 28 = .ok (.iload_n 3, 1) := by decide +kernel
theorem dX3_falseByBars_29 : decode cX3_falseByBars 29 = .ok (.iconst 4, 1) := by decide +kernel
theorem dX3_falseByBars_30 : decode cX3_falseByBars 30 = .ok (.if_icmp .ge 17, 3) := by decide +kernel
theorem dX3_falseByBars_33 : decode cX3_falseByBars 33 = .ok (.iload_n 1, 1) := by decide +kernel
theorem dX3_falseByBars_34 : decode cX3_falseByBars 34 = .ok (.aload_n 0, 1) := by decide +kernel
theorem dX3_falseByBars_35 : decode cX3_falseByBars 35 = .ok (.iload_n 2, 1) := by decide +kernel
theorem dX3_falseByBars_36 : decode cX3_falseByBars 36 = .ok (.aload_n 0, 1) := by decide +kernel
theorem dX3_falseByBars_37 : decode cX3_falseByBars 37 = .ok (.getfield 9, 3) := by decide +kernel
theorem dX3_falseByBars_40 : decode cX3_falseByBars 40 = .ok (.iload_n 3, 1) := by decide +kernel
theorem dX3_falseByBars_41 : decode cX3_falseByBars 41 = .ok (.iaload, 1) := by decide +kernel
theorem dX3_falseByBars_42 : decode cX3_falseByBars 42 = .ok (.invokevirtual 55, 3) := by decide +kernel
theorem dX3_falseByBars_45 : decode cX3_falseByBars 45 = .ok (.iadd, 1) := by decide +kernel
theorem dX3_falseByBars_46 : decode cX3_falseByBars 46 = .ok (.istore_n 1, 1) := by decide +kernel
theorem dX3_falseByBars_47 : decode cX3_falseByBars 47 = .ok (.iinc 2 1, 3) := by decide +kernel
theorem dX3_falseByBars_50 : decode cX3_falseByBars 50 = .ok (.goto (-46), 3) := by decide +kernel
theorem dX3_falseByBars_53 : decode cX3_falseByBars 53 = .ok (.iload_n 1, 1) := by decide +kernel
theorem dX3_falseByBars_54 : decode cX3_falseByBars 54 = .ok (.ireturn, 1) := by decide +kernel
theorem dX3_falseOf_0 : decode cX3_falseOf 0 = .ok (.iconst 0, 1) := by decide +kernel
theorem dX3_falseOf_1 : decode cX3_falseOf 1 = .ok (.istore_n 3, 1) := by decide +kernel
theorem dX3_falseOf_2 : decode cX3_falseOf 2 = .ok (.iconst 0, 1) := by decide +kernel
theorem dX3_falseOf_3 : decode cX3_falseOf 3 = .ok (.istore 4, 2) := by decide +kernel
theorem dX3_falseOf_5 : decode cX3_falseOf 5 = .ok (.iload 4, 2) := by decide +kernel
theorem dX3_falseOf_7 : decode cX3_falseOf 7 = .ok (.aload_n 0, 1) := by decide +kernel
theorem dX3_falseOf_8 : decode cX3_falseOf 8 = .ok (.getfield 21, 3) := by decide +kernel
theorem dX3_falseOf_11 : decode cX3_falseOf 11 = .ok (.getfield 40, 3) := by decide +kernel
theorem dX3_falseOf_14 : decode cX3_falseOf 14 = .ok (.if_icmp .ge 32, 3) := by decide +kernel
theorem dX3_falseOf_17 : decode cX3_falseOf 17 = .ok (.iload 4, 2) := by decide +kernel
theorem dX3_falseOf_19 : decode cX3_falseOf 19 = .ok (.iload_n 1, 1) := by decide +kernel
theorem dX3_falseOf_20 : decode cX3_falseOf 20 = .ok (.if_icmp .eq 20, 3) := by decide +kernel
theorem dX3_falseOf_23 : decode cX3_falseOf 23 = .ok (.aload_n 0, 1) := by decide +kernel
theorem dX3_falseOf_24 : decode cX3_falseOf 24 = .ok (.getfield 25, 3) := by decide +kernel
theorem dX3_falseOf_27 : decode cX3_falseOf 27 = .ok (.iload_n 1, 1) := by decide +kernel
theorem dX3_falseOf_28 : decode cX3_falseOf 28 = .ok (.iload 4, 2) := by decide +kernel
theorem dX3_falseOf_30 : decode cX3_falseOf 30 = .ok (.invokevirtual 46, 3) := by decide +kernel
theorem dX3_falseOf_33 : decode cX3_falseOf 33 = .ok (.iload_n 2, 1) := by decide +kernel
theorem dX3_falseOf_34 : decode cX3_falseOf 34 = .ok (.if_icmp .gt 6, 3) := by decide +kernel
theorem dX3_falseOf_37 : decode cX3_falseOf 37 = .ok (.iinc 3 1, 3) := by decide +kernel
theorem dX3_falseOf_40 : decode cX3_falseOf 40 = .ok (.iinc 4 1, 3) := by decide +kernel
theorem dX3_falseOf_43 : decode cX3_falseOf 43 = .ok (.goto (-38), 3) := by decide +kernel
theorem dX3_falseOf_46 : decode cX3_falseOf 46 = .ok (.iload_n 3, 1) := by decide +kernel
theorem dX3_falseOf_47 : decode cX3_falseOf 47 = .ok (.ireturn, 1) := by decide +kernel
theorem dX3_heldBy_0 : decode cX3_heldBy 0 = .ok (.iconst 0, 1) := by decide +kernel
theorem dX3_heldBy_1 : decode cX3_heldBy 1 = .ok (.istore_n 3, 1) := by decide +kernel
theorem dX3_heldBy_2 : decode cX3_heldBy 2 = .ok (.iconst 0, 1) := by decide +kernel
theorem dX3_heldBy_3 : decode cX3_heldBy 3 = .ok (.istore 4, 2) := by decide +kernel
theorem dX3_heldBy_5 : decode cX3_heldBy 5 = .ok (.iload 4, 2) := by decide +kernel
theorem dX3_heldBy_7 : decode cX3_heldBy 7 = .ok (.aload_n 0, 1) := by decide +kernel
theorem dX3_heldBy_8 : decode cX3_heldBy 8 = .ok (.getfield 21, 3) := by decide +kernel
theorem dX3_heldBy_11 : decode cX3_heldBy 11 = .ok (.getfield 40, 3) := by decide +kernel
theorem dX3_heldBy_14 : decode cX3_heldBy 14 = .ok (.if_icmp .ge 45, 3) := by decide +kernel
theorem dX3_heldBy_17 : decode cX3_heldBy 17 = .ok (.iload_n 2, 1) := by decide +kernel
theorem dX3_heldBy_18 : decode cX3_heldBy 18 = .ok (.iconst (-1), 1) := by decide +kernel
theorem dX3_heldBy_19 : decode cX3_heldBy 19 = .ok (.if_icmp .eq 16, 3) := by decide +kernel
theorem dX3_heldBy_22 : decode cX3_heldBy 22 = .ok (.aload_n 0, 1) := by decide +kernel
theorem dX3_heldBy_23 : decode cX3_heldBy 23 = .ok (.getfield 21, 3) := by decide +kernel
theorem dX3_heldBy_26 : decode cX3_heldBy 26 = .ok (.iload 4, 2) := by decide +kernel
theorem dX3_heldBy_28 : decode cX3_heldBy 28 = .ok (.invokevirtual 51, 3) := by decide +kernel
theorem dX3_heldBy_31 : decode cX3_heldBy 31 = .ok (.iload_n 2, 1) := by decide +kernel
theorem dX3_heldBy_32 : decode cX3_heldBy 32 = .ok (.if_icmp .ne 21, 3) := by decide +kernel
theorem dX3_heldBy_35 : decode cX3_heldBy 35 = .ok (.aload_n 0, 1) := by decide +kernel
theorem dX3_heldBy_36 : decode cX3_heldBy 36 = .ok (.getfield 25, 3) := by decide +kernel
theorem dX3_heldBy_39 : decode cX3_heldBy 39 = .ok (.iload 4, 2) := by decide +kernel
theorem dX3_heldBy_41 : decode cX3_heldBy 41 = .ok (.iload 4, 2) := by decide +kernel
theorem dX3_heldBy_43 : decode cX3_heldBy 43 = .ok (.invokevirtual 46, 3) := by decide +kernel
theorem dX3_heldBy_46 : decode cX3_heldBy 46 = .ok (.iload_n 1, 1) := by decide +kernel
theorem dX3_heldBy_47 : decode cX3_heldBy 47 = .ok (.if_icmp .le 6, 3) := by decide +kernel
theorem dX3_heldBy_50 : decode cX3_heldBy 50 = .ok (.iinc 3 1, 3) := by decide +kernel
theorem dX3_heldBy_53 : decode cX3_heldBy 53 = .ok (.iinc 4 1, 3) := by decide +kernel
theorem dX3_heldBy_56 : decode cX3_heldBy 56 = .ok (.goto (-51), 3) := by decide +kernel
theorem dX3_heldBy_59 : decode cX3_heldBy 59 = .ok (.iload_n 3, 1) := by decide +kernel
theorem dX3_heldBy_60 : decode cX3_heldBy 60 = .ok (.ireturn, 1) := by decide +kernel
theorem dX3_ownBar_0 : decode cX3_ownBar 0 = .ok (.aload_n 0, 1) := by decide +kernel
theorem dX3_ownBar_1 : decode cX3_ownBar 1 = .ok (.getfield 21, 3) := by decide +kernel
theorem dX3_ownBar_4 : decode cX3_ownBar 4 = .ok (.iload_n 1, 1) := by decide +kernel
theorem dX3_ownBar_5 : decode cX3_ownBar 5 = .ok (.invokevirtual 58, 3) := by decide +kernel
theorem dX3_ownBar_8 : decode cX3_ownBar 8 = .ok (.istore_n 3, 1) := by decide +kernel
theorem dX3_ownBar_9 : decode cX3_ownBar 9 = .ok (.iload_n 3, 1) := by decide +kernel
theorem dX3_ownBar_10 : decode cX3_ownBar 10 = .ok (.ifCond .ne 5, 3) := by decide +kernel
theorem dX3_ownBar_13 : decode cX3_ownBar 13 = .ok (.iconst (-1), 1) := by decide +kernel
theorem dX3_ownBar_14 : decode cX3_ownBar 14 = .ok (.ireturn, 1) := by decide +kernel
theorem dX3_ownBar_15 : decode cX3_ownBar 15 = .ok (.aload_n 0, 1) := by decide +kernel
theorem dX3_ownBar_16 : decode cX3_ownBar 16 = .ok (.iconst 0, 1) := by decide +kernel
theorem dX3_ownBar_17 : decode cX3_ownBar 17 = .ok (.iload_n 1, 1) := by decide +kernel
theorem dX3_ownBar_18 : decode cX3_ownBar 18 = .ok (.invokevirtual 33, 3) := by decide +kernel
theorem dX3_ownBar_21 : decode cX3_ownBar 21 = .ok (.bipush 100, 2) := by decide +kernel
theorem dX3_ownBar_23 : decode cX3_ownBar 23 = .ok (.imul, 1) := by decide +kernel
theorem dX3_ownBar_24 : decode cX3_ownBar 24 = .ok (.iload_n 2, 1) := by decide +kernel
theorem dX3_ownBar_25 : decode cX3_ownBar 25 = .ok (.iload_n 3, 1) := by decide +kernel
theorem dX3_ownBar_26 : decode cX3_ownBar 26 = .ok (.imul, 1) := by decide +kernel
theorem dX3_ownBar_27 : decode cX3_ownBar 27 = .ok (.if_icmp .gt 5, 3) := by decide +kernel
theorem dX3_ownBar_30 : decode cX3_ownBar 30 = .ok (.iconst 0, 1) := by decide +kernel
theorem dX3_ownBar_31 : decode cX3_ownBar 31 = .ok (.ireturn, 1) := by decide +kernel
theorem dX3_ownBar_32 : decode cX3_ownBar 32 = .ok (.sipush 800, 3) := by decide +kernel
theorem dX3_ownBar_35 : decode cX3_ownBar 35 = .ok (.istore 4, 2) := by decide +kernel
theorem dX3_ownBar_37 : decode cX3_ownBar 37 = .ok (.iconst 0, 1) := by decide +kernel
theorem dX3_ownBar_38 : decode cX3_ownBar 38 = .ok (.istore 5, 2) := by decide +kernel
theorem dX3_ownBar_40 : decode cX3_ownBar 40 = .ok (.iload 5, 2) := by decide +kernel
theorem dX3_ownBar_42 : decode cX3_ownBar 42 = .ok (.aload_n 0, 1) := by decide +kernel
theorem dX3_ownBar_43 : decode cX3_ownBar 43 = .ok (.getfield 21, 3) := by decide +kernel
theorem dX3_ownBar_46 : decode cX3_ownBar 46 = .ok (.getfield 40, 3) := by decide +kernel
theorem dX3_ownBar_49 : decode cX3_ownBar 49 = .ok (.if_icmp .ge 62, 3) := by decide +kernel
theorem dX3_ownBar_52 : decode cX3_ownBar 52 = .ok (.aload_n 0, 1) := by decide +kernel
theorem dX3_ownBar_53 : decode cX3_ownBar 53 = .ok (.getfield 25, 3) := by decide +kernel
theorem dX3_ownBar_56 : decode cX3_ownBar 56 = .ok (.iload 5, 2) := by decide +kernel
theorem dX3_ownBar_58 : decode cX3_ownBar 58 = .ok (.iload 5, 2) := by decide +kernel
theorem dX3_ownBar_60 : decode cX3_ownBar 60 = .ok (.invokevirtual 46, 3) := by decide +kernel
theorem dX3_ownBar_63 : decode cX3_ownBar 63 = .ok (.istore 6, 2) := by decide +kernel
theorem dX3_ownBar_65 : decode cX3_ownBar 65 = .ok (.aload_n 0, 1) := by decide +kernel
theorem dX3_ownBar_66 : decode cX3_ownBar 66 = .ok (.getfield 21, 3) := by decide +kernel
theorem dX3_ownBar_69 : decode cX3_ownBar 69 = .ok (.iload 5, 2) := by decide +kernel
theorem dX3_ownBar_71 : decode cX3_ownBar 71 = .ok (.invokevirtual 51, 3) := by decide +kernel
theorem dX3_ownBar_74 : decode cX3_ownBar 74 = .ok (.iload_n 1, 1) := by decide +kernel
theorem dX3_ownBar_75 : decode cX3_ownBar 75 = .ok (.if_icmp .ne 30, 3) := by decide +kernel
theorem dX3_ownBar_78 : decode cX3_ownBar 78 = .ok (.iload 6, 2) := by decide +kernel
theorem dX3_ownBar_80 : decode cX3_ownBar 80 = .ok (.iload 4, 2) := by decide +kernel
theorem dX3_ownBar_82 : decode cX3_ownBar 82 = .ok (.if_icmp .ge 23, 3) := by decide +kernel
theorem dX3_ownBar_85 : decode cX3_ownBar 85 = .ok (.aload_n 0, 1) := by decide +kernel
theorem dX3_ownBar_86 : decode cX3_ownBar 86 = .ok (.iload 6, 2) := by decide +kernel
theorem dX3_ownBar_88 : decode cX3_ownBar 88 = .ok (.iload_n 1, 1) := by decide +kernel
theorem dX3_ownBar_89 : decode cX3_ownBar 89 = .ok (.invokevirtual 33, 3) := by decide +kernel
theorem dX3_ownBar_92 : decode cX3_ownBar 92 = .ok (.bipush 100, 2) := by decide +kernel
theorem dX3_ownBar_94 : decode cX3_ownBar 94 = .ok (.imul, 1) := by decide +kernel
theorem dX3_ownBar_95 : decode cX3_ownBar 95 = .ok (.iload_n 2, 1) := by decide +kernel
theorem dX3_ownBar_96 : decode cX3_ownBar 96 = .ok (.iload_n 3, 1) := by decide +kernel
theorem dX3_ownBar_97 : decode cX3_ownBar 97 = .ok (.imul, 1) := by decide +kernel
theorem dX3_ownBar_98 : decode cX3_ownBar 98 = .ok (.if_icmp .gt 7, 3) := by decide +kernel
theorem dX3_ownBar_101 : decode cX3_ownBar 101 = .ok (.iload 6, 2) := by decide +kernel
theorem dX3_ownBar_103 : decode cX3_ownBar 103 = .ok (.istore 4, 2) := by decide +kernel
theorem dX3_ownBar_105 : decode cX3_ownBar 105 = .ok (.iinc 5 1, 3) := by decide +kernel
theorem dX3_ownBar_108 : decode cX3_ownBar 108 = .ok (.goto (-68), 3) := by decide +kernel
theorem dX3_ownBar_111 : decode cX3_ownBar 111 = .ok (.iload 4, 2) := by decide +kernel
theorem dX3_ownBar_113 : decode cX3_ownBar 113 = .ok (.ireturn, 1) := by decide +kernel
theorem dX3_falseByOwnBars_0 : decode cX3_falseByOwnBars 0 = .ok (.iconst 0, 1) := by decide +kernel
theorem dX3_falseByOwnBars_1 : decode cX3_falseByOwnBars 1 = .ok (.istore_n 2, 1) := by decide +kernel
theorem dX3_falseByOwnBars_2 : decode cX3_falseByOwnBars 2 = .ok (.iload_n 2, 1) := by decide +kernel
theorem dX3_falseByOwnBars_3 : decode cX3_falseByOwnBars 3 = .ok (.iconst 4, 1) := by decide +kernel
theorem dX3_falseByOwnBars_4 : decode cX3_falseByOwnBars 4 = .ok (.if_icmp .ge 21, 3) := by decide +kernel
theorem dX3_falseByOwnBars_7 : decode cX3_falseByOwnBars 7 = .ok (.aload_n 0, 1) := by decide +kernel
theorem dX3_falseByOwnBars_8 : decode cX3_falseByOwnBars 8 = .ok (.getfield 9, 3) := by decide +kernel
theorem dX3_falseByOwnBars_11 : decode cX3_falseByOwnBars 11 = .ok (.iload_n 2, 1) := by decide +kernel
theorem dX3_falseByOwnBars_12 : decode cX3_falseByOwnBars 12 = .ok (.aload_n 0, 1) := by decide +kernel
theorem dX3_falseByOwnBars_13 : decode cX3_falseByOwnBars 13 = .ok (.iload_n 2, 1) := by decide +kernel
theorem dX3_falseByOwnBars_14 : decode cX3_falseByOwnBars 14 = .ok (.iload_n 1, 1) := by decide +kernel
theorem dX3_falseByOwnBars_15 : decode cX3_falseByOwnBars 15 = .ok (.invokevirtual 61, 3) := by decide +kernel
theorem dX3_falseByOwnBars_18 : decode cX3_falseByOwnBars 18 = .ok (.iastore, 1) := by decide +kernel
theorem dX3_falseByOwnBars_19 : decode cX3_falseByOwnBars 19 = .ok (.iinc 2 1, 3) := by decide +kernel
theorem dX3_falseByOwnBars_22 : decode cX3_falseByOwnBars 22 = .ok (.goto (-20), 3) := by decide +kernel
theorem dX3_falseByOwnBars_25 : decode cX3_falseByOwnBars 25 = .ok (.aload_n 0, 1) := by decide +kernel
theorem dX3_falseByOwnBars_26 : decode cX3_falseByOwnBars 26 = .ok (.invokevirtual 29, 3) := by decide +kernel
theorem dX3_falseByOwnBars_29 : decode cX3_falseByOwnBars 29 = .ok (.ireturn, 1) := by decide +kernel
theorem dX4_init_0 : decode cX4_init 0 = .ok (.aload_n 0, 1) := by decide +kernel
theorem dX4_init_1 : decode cX4_init 1 = .ok (.invokespecial 3, 3) := by decide +kernel
theorem dX4_init_4 : decode cX4_init 4 = .ok (.aload_n 0, 1) := by decide +kernel
theorem dX4_init_5 : decode cX4_init 5 = .ok (.bipush 40, 2) := by decide +kernel
theorem dX4_init_7 : decode cX4_init 7 = .ok (.newarray .int, 2) := by decide +kernel
theorem dX4_init_9 : decode cX4_init 9 = .ok (.putfield 9, 3) := by decide +kernel
theorem dX4_init_12 : decode cX4_init 12 = .ok (.aload_n 0, 1) := by decide +kernel
theorem dX4_init_13 : decode cX4_init 13 = .ok (.bipush 40, 2) := by decide +kernel
theorem dX4_init_15 : decode cX4_init 15 = .ok (.newarray .int, 2) := by decide +kernel
theorem dX4_init_17 : decode cX4_init 17 = .ok (.putfield 15, 3) := by decide +kernel
theorem dX4_init_20 : decode cX4_init 20 = .ok (.aload_n 0, 1) := by decide +kernel
theorem dX4_init_21 : decode cX4_init 21 = .ok (.bipush 40, 2) := by decide +kernel
theorem dX4_init_23 : decode cX4_init 23 = .ok (.newarray .int, 2) := by decide +kernel
theorem dX4_init_25 : decode cX4_init 25 = .ok (.putfield 18, 3) := by decide +kernel
theorem dX4_init_28 : decode cX4_init 28 = .ok (.aload_n 0, 1) := by decide +kernel
theorem dX4_init_29 : decode cX4_init 29 = .ok (.iconst 0, 1) := by decide +kernel
theorem dX4_init_30 : decode cX4_init 30 = .ok (.putfield 21, 3) := by decide +kernel
theorem dX4_init_33 : decode cX4_init 33 = .ok (.aload_n 0, 1) := by decide +kernel
theorem dX4_init_34 : decode cX4_init 34 = .ok (.iconst (-1), 1) := by decide +kernel
theorem dX4_init_35 : decode cX4_init 35 = .ok (.putfield 25, 3) := by decide +kernel
theorem dX4_init_38 : decode cX4_init 38 = .ok (.aload_n 0, 1) := by decide +kernel
theorem dX4_init_39 : decode cX4_init 39 = .ok (.aload_n 1, 1) := by decide +kernel
theorem dX4_init_40 : decode cX4_init 40 = .ok (.putfield 28, 3) := by decide +kernel
theorem dX4_init_43 : decode cX4_init 43 = .ok (.aload_n 0, 1) := by decide +kernel
theorem dX4_init_44 : decode cX4_init 44 = .ok (.aload_n 2, 1) := by decide +kernel
theorem dX4_init_45 : decode cX4_init 45 = .ok (.putfield 32, 3) := by decide +kernel
theorem dX4_init_48 : decode cX4_init 48 = .ok (.return_, 1) := by decide +kernel
theorem dX4_part_0 : decode cX4_part 0 = .ok (.aload_n 0, 1) := by decide +kernel
theorem dX4_part_1 : decode cX4_part 1 = .ok (.iconst 0, 1) := by decide +kernel
theorem dX4_part_2 : decode cX4_part 2 = .ok (.putfield 21, 3) := by decide +kernel
theorem dX4_part_5 : decode cX4_part 5 = .ok (.aload_n 0, 1) := by decide +kernel
theorem dX4_part_6 : decode cX4_part 6 = .ok (.iconst (-1), 1) := by decide +kernel
theorem dX4_part_7 : decode cX4_part 7 = .ok (.putfield 25, 3) := by decide +kernel
theorem dX4_part_10 : decode cX4_part 10 = .ok (.iconst 0, 1) := by decide +kernel
theorem dX4_part_11 : decode cX4_part 11 = .ok (.istore_n 2, 1) := by decide +kernel
theorem dX4_part_12 : decode cX4_part 12 = .ok (.iload_n 2, 1) := by decide +kernel
theorem dX4_part_13 : decode cX4_part 13 = .ok (.bipush 40, 2) := by decide +kernel
theorem dX4_part_15 : decode cX4_part 15 = .ok (.if_icmp .ge 23, 3) := by decide +kernel
theorem dX4_part_18 : decode cX4_part 18 = .ok (.aload_n 0, 1) := by decide +kernel
theorem dX4_part_19 : decode cX4_part 19 = .ok (.getfield 9, 3) := by decide +kernel
theorem dX4_part_22 : decode cX4_part 22 = .ok (.iload_n 2, 1) := by decide +kernel
theorem dX4_part_23 : decode cX4_part 23 = .ok (.iconst (-1), 1) := by decide +kernel
theorem dX4_part_24 : decode cX4_part 24 = .ok (.iastore, 1) := by decide +kernel
theorem dX4_part_25 : decode cX4_part 25 = .ok (.aload_n 0, 1) := by decide +kernel
theorem dX4_part_26 : decode cX4_part 26 = .ok (.getfield 15, 3) := by decide +kernel
theorem dX4_part_29 : decode cX4_part 29 = .ok (.iload_n 2, 1) := by decide +kernel
theorem dX4_part_30 : decode cX4_part 30 = .ok (.iconst 0, 1) := by decide +kernel
theorem dX4_part_31 : decode cX4_part 31 = .ok (.iastore, 1) := by decide +kernel
theorem dX4_part_32 : decode cX4_part 32 = .ok (.iinc 2 1, 3) := by decide +kernel
theorem dX4_part_35 : decode cX4_part 35 = .ok (.goto (-23), 3) := by decide +kernel
theorem dX4_part_38 : decode cX4_part 38 = .ok (.iconst 0, 1) := by decide +kernel
theorem dX4_part_39 : decode cX4_part 39 = .ok (.istore_n 2, 1) := by decide +kernel
theorem dX4_part_40 : decode cX4_part 40 = .ok (.iload_n 2, 1) := by decide +kernel
theorem dX4_part_41 : decode cX4_part 41 = .ok (.aload_n 0, 1) := by decide +kernel
theorem dX4_part_42 : decode cX4_part 42 = .ok (.getfield 32, 3) := by decide +kernel
theorem dX4_part_45 : decode cX4_part 45 = .ok (.getfield 36, 3) := by decide +kernel
theorem dX4_part_48 : decode cX4_part 48 = .ok (.if_icmp .ge 71, 3) := by decide +kernel
theorem dX4_part_51 : decode cX4_part 51 = .ok (.iload_n 2, 1) := by decide +kernel
theorem dX4_part_52 : decode cX4_part 52 = .ok (.bipush 40, 2) := by decide +kernel
theorem dX4_part_54 : decode cX4_part 54 = .ok (.if_icmp .ge 65, 3) := by decide +kernel
theorem dX4_part_57 : decode cX4_part 57 = .ok (.aload_n 0, 1) := by decide +kernel
theorem dX4_part_58 : decode cX4_part 58 = .ok (.getfield 9, 3) := by decide +kernel
theorem dX4_part_61 : decode cX4_part 61 = .ok (.iload_n 2, 1) := by decide +kernel
theorem dX4_part_62 : decode cX4_part 62 = .ok (.iaload, 1) := by decide +kernel
theorem dX4_part_63 : decode cX4_part 63 = .ok (.iconst (-1), 1) := by decide +kernel
theorem dX4_part_64 : decode cX4_part 64 = .ok (.if_icmp .ne 49, 3) := by decide +kernel
theorem dX4_part_67 : decode cX4_part 67 = .ok (.aload_n 0, 1) := by decide +kernel
theorem dX4_part_68 : decode cX4_part 68 = .ok (.getfield 32, 3) := by decide +kernel
theorem dX4_part_71 : decode cX4_part 71 = .ok (.iload_n 2, 1) := by decide +kernel
theorem dX4_part_72 : decode cX4_part 72 = .ok (.iload_n 1, 1) := by decide +kernel
theorem dX4_part_73 : decode cX4_part 73 = .ok (.invokevirtual 41, 3) := by decide +kernel
theorem dX4_part_76 : decode cX4_part 76 = .ok (.ifCond .eq 37, 3) := by decide +kernel
theorem dX4_part_79 : decode cX4_part 79 = .ok (.aload_n 0, 1) := by decide +kernel
theorem dX4_part_80 : decode cX4_part 80 = .ok (.iload_n 2, 1) := by decide +kernel
theorem dX4_part_81 : decode cX4_part 81 = .ok (.iload_n 1, 1) := by decide +kernel
theorem dX4_part_82 : decode cX4_part 82 = .ok (.invokevirtual 45, 3) := by decide +kernel
theorem dX4_part_85 : decode cX4_part 85 = .ok (.aload_n 0, 1) := by decide +kernel
theorem dX4_part_86 : decode cX4_part 86 = .ok (.dup, 1) := by decide +kernel
theorem dX4_part_87 : decode cX4_part 87 = .ok (.getfield 21, 3) := by decide +kernel
theorem dX4_part_90 : decode cX4_part 90 = .ok (.iconst 1, 1) := by decide +kernel
theorem dX4_part_91 : decode cX4_part 91 = .ok (.iadd, 1) := by decide +kernel
theorem dX4_part_92 : decode cX4_part 92 = .ok (.putfield 21, 3) := by decide +kernel
theorem dX4_part_95 : decode cX4_part 95 = .ok (.aload_n 0, 1) := by decide +kernel
theorem dX4_part_96 : decode cX4_part 96 = .ok (.getfield 15, 3) := by decide +kernel
theorem dX4_part_99 : decode cX4_part 99 = .ok (.iload_n 2, 1) := by decide +kernel
theorem dX4_part_100 : decode cX4_part 100 = .ok (.iaload, 1) := by decide +kernel
theorem dX4_part_101 : decode cX4_part 101 = .ok (.aload_n 0, 1) := by decide +kernel
theorem dX4_part_102 : decode cX4_part 102 = .ok (.invokevirtual 49, 3) := by decide +kernel
theorem dX4_part_105 : decode cX4_part 105 = .ok (.if_icmp .le 8, 3) := by decide +kernel
theorem dX4_part_108 : decode cX4_part 108 = .ok (.aload_n 0, 1) := by decide +kernel
theorem dX4_part_109 : decode cX4_part 109 = .ok (.iload_n 2, 1) := by decide +kernel
theorem dX4_part_110 : decode cX4_part 110 = .ok (.putfield 25, 3) := by decide +kernel
theorem dX4_part_113 : decode cX4_part 113 = .ok (.iinc 2 1, 3) := by decide +kernel
theorem dX4_part_116 : decode cX4_part 116 = .ok (.goto (-76), 3) := by decide +kernel
theorem dX4_part_119 : decode cX4_part 119 = .ok (.return_, 1) := by decide +kernel
theorem dX4_gather_0 : decode cX4_gather 0 = .ok (.aload_n 0, 1) := by decide +kernel
theorem dX4_gather_1 : decode cX4_gather 1 = .ok (.getfield 18, 3) := by decide +kernel
theorem dX4_gather_4 : decode cX4_gather 4 = .ok (.iconst 0, 1) := by decide +kernel
theorem dX4_gather_5 : decode cX4_gather 5 = .ok (.iload_n 1, 1) := by decide +kernel
theorem dX4_gather_6 : decode cX4_gather 6 = .ok (.iastore, 1) := by decide +kernel
theorem dX4_gather_7 : decode cX4_gather 7 = .ok (.aload_n 0, 1) := by decide +kernel
theorem dX4_gather_8 : decode cX4_gather 8 = .ok (.getfield 9, 3) := by decide +kernel
theorem dX4_gather_11 : decode cX4_gather 11 = .ok (.iload_n 1, 1) := by decide +kernel
theorem dX4_gather_12 : decode cX4_gather 12 = .ok (.iload_n 1, 1) := by decide +kernel
theorem dX4_gather_13 : decode cX4_gather 13 = .ok (.iastore, 1) := by decide +kernel
theorem dX4_gather_14 : decode cX4_gather 14 = .ok (.iconst 1, 1) := by decide +kernel
theorem dX4_gather_15 : decode cX4_gather 15 = .ok (.istore_n 3, 1) := by decide +kernel
theorem dX4_gather_16 : decode cX4_gather 16 = .ok (.iconst 0, 1) := by decide +kernel
theorem dX4_gather_17 : decode cX4_gather 17 = .ok (.istore 4, 2) := by decide +kernel
theorem dX4_gather_19 : decode cX4_gather 19 = .ok (.iload 4, 2) := by decide +kernel
theorem dX4_gather_21 : decode cX4_gather 21 = .ok (.iload_n 3, 1) := by decide +kernel
theorem dX4_gather_22 : decode cX4_gather 22 = .ok (.if_icmp .ge 109, 3) := by decide +kernel
theorem dX4_gather_25 : decode cX4_gather 25 = .ok (.iload 4, 2) := by decide +kernel
theorem dX4_gather_27 : decode cX4_gather 27 = .ok (.bipush 40, 2) := by decide +kernel
theorem dX4_gather_29 : decode cX4_gather 29 = .ok (.if_icmp .ge 102, 3) := by decide +kernel
theorem dX4_gather_32 : decode cX4_gather 32 = .ok (.iconst 0, 1) := by decide +kernel
theorem dX4_gather_33 : decode cX4_gather 33 = .ok (.istore 5, 2) := by decide +kernel
theorem dX4_gather_35 : decode cX4_gather 35 = .ok (.iload 5, 2) := by decide +kernel
theorem dX4_gather_37 : decode cX4_gather 37 = .ok (.aload_n 0, 1) := by decide +kernel
theorem dX4_gather_38 : decode cX4_gather 38 = .ok (.getfield 32, 3) := by decide +kernel
theorem dX4_gather_41 : decode cX4_gather 41 = .ok (.getfield 36, 3) := by decide +kernel
theorem dX4_gather_44 : decode cX4_gather 44 = .ok (.if_icmp .ge 81, 3) := by decide +kernel
theorem dX4_gather_47 : decode cX4_gather 47 = .ok (.iload 5, 2) := by decide +kernel
theorem dX4_gather_49 : decode cX4_gather 49 = .ok (.bipush 40, 2) := by decide +kernel
theorem dX4_gather_51 : decode cX4_gather 51 = .ok (.if_icmp .ge 74, 3) := by decide +kernel
theorem dX4_gather_54 : decode cX4_gather 54 = .ok (.aload_n 0, 1) := by decide +kernel
theorem dX4_gather_55 : decode cX4_gather 55 = .ok (.getfield 9, 3) := by decide +kernel
theorem dX4_gather_58 : decode cX4_gather 58 = .ok (.iload 5, 2) := by decide +kernel
theorem dX4_gather_60 : decode cX4_gather 60 = .ok (.iaload, 1) := by decide +kernel
theorem dX4_gather_61 : decode cX4_gather 61 = .ok (.iconst (-1), 1) := by decide +kernel
theorem dX4_gather_62 : decode cX4_gather 62 = .ok (.if_icmp .ne 57, 3) := by decide +kernel
theorem dX4_gather_65 : decode cX4_gather 65 = .ok (.aload_n 0, 1) := by decide +kernel
theorem dX4_gather_66 : decode cX4_gather 66 = .ok (.getfield 32, 3) := by decide +kernel
theorem dX4_gather_69 : decode cX4_gather 69 = .ok (.iload 5, 2) := by decide +kernel
theorem dX4_gather_71 : decode cX4_gather 71 = .ok (.iload_n 2, 1) := by decide +kernel
theorem dX4_gather_72 : decode cX4_gather 72 = .ok (.invokevirtual 41, 3) := by decide +kernel
theorem dX4_gather_75 : decode cX4_gather 75 = .ok (.ifCond .eq 44, 3) := by decide +kernel
theorem dX4_gather_78 : decode cX4_gather 78 = .ok (.aload_n 0, 1) := by decide +kernel
theorem dX4_gather_79 : decode cX4_gather 79 = .ok (.aload_n 0, 1) := by decide +kernel
theorem dX4_gather_80 : decode cX4_gather 80 = .ok (.getfield 18, 3) := by decide +kernel
theorem dX4_gather_83 : decode cX4_gather 83 = .ok (.iload 4, 2) := by decide +kernel
theorem dX4_gather_85 : decode cX4_gather 85 = .ok (.iaload, 1) := by decide +kernel
theorem dX4_gather_86 : decode cX4_gather 86 = .ok (.iload 5, 2) := by decide +kernel
theorem dX4_gather_88 : decode cX4_gather 88 = .ok (.invokevirtual 53, 3) := by decide +kernel
theorem dX4_gather_91 : decode cX4_gather 91 = .ok (.ifCond .eq 28, 3) := by decide +kernel
theorem dX4_gather_94 : decode cX4_gather 94 = .ok (.iload_n 3, 1) := by decide +kernel
theorem dX4_gather_95 : decode cX4_gather 95 = .ok (.bipush 40, 2) := by decide +kernel
theorem dX4_gather_97 : decode cX4_gather 97 = .ok (.if_icmp .ge 22, 3) := by decide +kernel
theorem dX4_gather_100 : decode cX4_gather 100 = .ok (.aload_n 0, 1) := by decide +kernel
theorem dX4_gather_101 : decode cX4_gather 101 = .ok (.getfield 9, 3) := by decide +kernel
theorem dX4_gather_104 : decode cX4_gather 104 = .ok (.iload 5, 2) := by decide +kernel
theorem dX4_gather_106 : decode cX4_gather 106 = .ok (.iload_n 1, 1) := by decide +kernel
theorem dX4_gather_107 : decode cX4_gather 107 = .ok (.iastore, 1) := by decide +kernel
theorem dX4_gather_108 : decode cX4_gather 108 = .ok (.aload_n 0, 1) := by decide +kernel
theorem dX4_gather_109 : decode cX4_gather 109 = .ok (.getfield 18, 3) := by decide +kernel
theorem dX4_gather_112 : decode cX4_gather 112 = .ok (.iload_n 3, 1) := by decide +kernel
theorem dX4_gather_113 : decode cX4_gather 113 = .ok (.iload 5, 2) := by decide +kernel
theorem dX4_gather_115 : decode cX4_gather 115 = .ok (.iastore, 1) := by decide +kernel
theorem dX4_gather_116 : decode cX4_gather 116 = .ok (.iinc 3 1, 3) := by decide +kernel
theorem dX4_gather_119 : decode cX4_gather 119 = .ok (.iinc 5 1, 3) := by decide +kernel
theorem dX4_gather_122 : decode cX4_gather 122 = .ok (.goto (-87), 3) := by decide +kernel
theorem dX4_gather_125 : decode cX4_gather 125 = .ok (.iinc 4 1, 3) := by decide +kernel
theorem dX4_gather_128 : decode cX4_gather 128 = .ok (.goto (-109), 3) := by decide +kernel
theorem dX4_gather_131 : decode cX4_gather 131 = .ok (.aload_n 0, 1) := by decide +kernel
theorem dX4_gather_132 : decode cX4_gather 132 = .ok (.getfield 15, 3) := by decide +kernel
theorem dX4_gather_135 : decode cX4_gather 135 = .ok (.iload_n 1, 1) := by decide +kernel
theorem dX4_gather_136 : decode cX4_gather 136 = .ok (.iload_n 3, 1) := by decide +kernel
theorem dX4_gather_137 : decode cX4_gather 137 = .ok (.iastore, 1) := by decide +kernel
theorem dX4_gather_138 : decode cX4_gather 138 = .ok (.return_, 1) := by decide +kernel
theorem dX4_hang_0 : decode cX4_hang 0 = .ok (.aload_n 0, 1) := by decide +kernel
theorem dX4_hang_1 : decode cX4_hang 1 = .ok (.getfield 32, 3) := by decide +kernel
theorem dX4_hang_4 : decode cX4_hang 4 = .ok (.iload_n 1, 1) := by decide +kernel
theorem dX4_hang_5 : decode cX4_hang 5 = .ok (.invokevirtual 56, 3) := by decide +kernel
theorem dX4_hang_8 : decode cX4_hang 8 = .ok (.istore_n 3, 1) := by decide +kernel
theorem dX4_hang_9 : decode cX4_hang 9 = .ok (.aload_n 0, 1) := by decide +kernel
theorem dX4_hang_10 : decode cX4_hang 10 = .ok (.getfield 32, 3) := by decide +kernel
theorem dX4_hang_13 : decode cX4_hang 13 = .ok (.iload_n 2, 1) := by decide +kernel
theorem dX4_hang_14 : decode cX4_hang 14 = .ok (.invokevirtual 56, 3) := by decide +kernel
theorem dX4_hang_17 : decode cX4_hang 17 = .ok (.istore 4, 2) := by decide +kernel
theorem dX4_hang_19 : decode cX4_hang 19 = .ok (.iload_n 3, 1) := by decide +kernel
theorem dX4_hang_20 : decode cX4_hang 20 = .ok (.iload 4, 2) := by decide +kernel
theorem dX4_hang_22 : decode cX4_hang 22 = .ok (.if_icmp .eq 25, 3) := by decide +kernel
theorem dX4_hang_25 : decode cX4_hang 25 = .ok (.aload_n 0, 1) := by decide +kernel
theorem dX4_hang_26 : decode cX4_hang 26 = .ok (.getfield 28, 3) := by decide +kernel
theorem dX4_hang_29 : decode cX4_hang 29 = .ok (.iload_n 3, 1) := by decide +kernel
theorem dX4_hang_30 : decode cX4_hang 30 = .ok (.iload 4, 2) := by decide +kernel
theorem dX4_hang_32 : decode cX4_hang 32 = .ok (.invokevirtual 60, 3) := by decide +kernel
theorem dX4_hang_35 : decode cX4_hang 35 = .ok (.ifCond .ne 12, 3) := by decide +kernel
theorem dX4_hang_38 : decode cX4_hang 38 = .ok (.aload_n 0, 1) := by decide +kernel
theorem dX4_hang_39 : decode cX4_hang 39 = .ok (.iload_n 1, 1) := by decide +kernel
theorem dX4_hang_40 : decode cX4_hang 40 = .ok (.iload_n 2, 1) := by decide +kernel
theorem dX4_hang_41 : decode cX4_hang 41 = .ok (.invokevirtual 65, 3) := by decide +kernel
theorem dX4_hang_44 : decode cX4_hang 44 = .ok (.ifCond .eq 7, 3) := by decide +kernel
theorem dX4_hang_47 : decode cX4_hang 47 = .ok (.iconst 1, 1) := by decide +kernel
theorem dX4_hang_48 : decode cX4_hang 48 = .ok (.goto 4, 3) := by decide +kernel
theorem dX4_hang_51 : decode cX4_hang 51 = .ok (.iconst 0, 1) := by decide +kernel
theorem dX4_hang_52 : decode cX4_hang 52 = .ok (.ireturn, 1) := by decide +kernel
theorem dX4_isSameCorner_0 : decode cX4_isSameCorner 0 = .ok (.aload_n 0, 1) := by decide +kernel
theorem dX4_isSameCorner_1 : decode cX4_isSameCorner 1 = .ok (.getfield 32, 3) := by decide +kernel
theorem dX4_isSameCorner_4 : decode cX4_isSameCorner 4 = .ok (.iload_n 1, 1) := by decide +kernel
theorem dX4_isSameCorner_5 : decode cX4_isSameCorner 5 = .ok (.invokevirtual 68, 3) := by decide +kernel
theorem dX4_isSameCorner_8 : decode cX4_isSameCorner 8 = .ok (.aload_n 0, 1) := by decide +kernel
theorem dX4_isSameCorner_9 : decode cX4_isSameCorner 9 = .ok (.getfield 32, 3) := by decide +kernel
theorem dX4_isSameCorner_12 : decode cX4_isSameCorner 12 = .ok (.iload_n 2, 1) := by decide +kernel
theorem dX4_isSameCorner_13 : decode cX4_isSameCorner 13 = .ok (.invokevirtual 68, 3) := by decide +kernel
theorem dX4_isSameCorner_16 : decode cX4_isSameCorner 16 = .ok (.if_icmp .ne 50, 3) := by decide +kernel
theorem dX4_isSameCorner_19 : decode cX4_isSameCorner 19 = .ok (.aload_n 0, 1) := by decide +kernel
theorem dX4_isSameCorner_20 : decode cX4_isSameCorner 20 = .ok (.getfield 32, 3) := by decide +kernel
theorem dX4_isSameCorner_23 : decode cX4_isSameCorner 23 = .ok (.iload_n 1, 1) := by decide +kernel
theorem dX4_isSameCorner_24 : decode cX4_isSameCorner 24 = .ok (.invokevirtual 71, 3) := by decide +kernel
theorem dX4_isSameCorner_27 : decode cX4_isSameCorner 27 = .ok (.aload_n 0, 1) := by decide +kernel
theorem dX4_isSameCorner_28 : decode cX4_isSameCorner 28 = .ok (.getfield 32, 3) := by decide +kernel
theorem dX4_isSameCorner_31 : decode cX4_isSameCorner 31 = .ok (.iload_n 2, 1) := by decide +kernel
theorem dX4_isSameCorner_32 : decode cX4_isSameCorner 32 = .ok (.invokevirtual 71, 3) := by decide +kernel
theorem dX4_isSameCorner_35 : decode cX4_isSameCorner 35 = .ok (.if_icmp .ne 31, 3) := by decide +kernel
theorem dX4_isSameCorner_38 : decode cX4_isSameCorner 38 = .ok (.aload_n 0, 1) := by decide +kernel
theorem dX4_isSameCorner_39 : decode cX4_isSameCorner 39 = .ok (.getfield 32, 3) := by decide +kernel
theorem dX4_isSameCorner_42 : decode cX4_isSameCorner 42 = .ok (.iload_n 1, 1) := by decide +kernel
theorem dX4_isSameCorner_43 : decode cX4_isSameCorner 43 = .ok (.invokevirtual 74, 3) := by decide +kernel
theorem dX4_isSameCorner_46 : decode cX4_isSameCorner 46 = .ok (.aload_n 0, 1) := by decide +kernel
theorem dX4_isSameCorner_47 : decode cX4_isSameCorner 47 = .ok (.getfield 32, 3) := by decide +kernel
theorem dX4_isSameCorner_50 : decode cX4_isSameCorner 50 = .ok (.iload_n 2, 1) := by decide +kernel
theorem dX4_isSameCorner_51 : decode cX4_isSameCorner 51 = .ok (.invokevirtual 74, 3) := by decide +kernel
theorem dX4_isSameCorner_54 : decode cX4_isSameCorner 54 = .ok (.isub, 1) := by decide +kernel
theorem dX4_isSameCorner_55 : decode cX4_isSameCorner 55 = .ok (.invokestatic 77, 3) := by decide +kernel
theorem dX4_isSameCorner_58 : decode cX4_isSameCorner 58 = .ok (.iconst 2, 1) := by decide +kernel
theorem dX4_isSameCorner_59 : decode cX4_isSameCorner 59 = .ok (.if_icmp .gt 7, 3) := by decide +kernel
theorem dX4_isSameCorner_62 : decode cX4_isSameCorner 62 = .ok (.iconst 1, 1) := by decide +kernel
theorem dX4_isSameCorner_63 : decode cX4_isSameCorner 63 = .ok (.goto 4, 3) := by decide +kernel
theorem dX4_isSameCorner_66 : decode cX4_isSameCorner 66 = .ok (.iconst 0, 1) := by decide +kernel
theorem dX4_isSameCorner_67 : decode cX4_isSameCorner 67 = .ok (.ireturn, 1) := by decide +kernel
theorem dX4_greatestSize_0 : decode cX4_greatestSize 0 = .ok (.aload_n 0, 1) := by decide +kernel
theorem dX4_greatestSize_1 : decode cX4_greatestSize 1 = .ok (.getfield 25, 3) := by decide +kernel
theorem dX4_greatestSize_4 : decode cX4_greatestSize 4 = .ok (.ifCond .lt 24, 3) := by decide +kernel
theorem dX4_greatestSize_7 : decode cX4_greatestSize 7 = .ok (.aload_n 0, 1) := by decide +kernel
theorem dX4_greatestSize_8 : decode cX4_greatestSize 8 = .ok (.getfield 25, 3) := by decide +kernel
theorem dX4_greatestSize_11 : decode cX4_greatestSize 11 = .ok (.bipush 40, 2) := by decide +kernel
theorem dX4_greatestSize_13 : decode cX4_greatestSize 13 = .ok (.if_icmp .ge 15, 3) := by decide +kernel
theorem dX4_greatestSize_16 : decode cX4_greatestSize 16 = .ok (.aload_n 0, 1) := by decide +kernel
theorem dX4_greatestSize_17 : decode cX4_greatestSize 17 = .ok (.getfield 15, 3) := by decide +kernel
theorem dX4_greatestSize_20 : decode cX4_greatestSize 20 = .ok (.aload_n 0, 1) := by decide +kernel
theorem dX4_greatestSize_21 : decode cX4_greatestSize 21 = .ok (.getfield 25, 3) := by decide +kernel
theorem dX4_greatestSize_24 : decode cX4_greatestSize 24 = .ok (.iaload, 1) := by decide +kernel
theorem dX4_greatestSize_25 : decode cX4_greatestSize 25 = .ok (.goto 4, 3) := by decide +kernel
theorem dX4_greatestSize_28 : decode cX4_greatestSize 28 = .ok (.iconst 0, 1) := by decide +kernel
theorem dX4_greatestSize_29 : decode cX4_greatestSize 29 = .ok (.ireturn, 1) := by decide +kernel
theorem dX4_sizeOfPartOf_0 : decode cX4_sizeOfPartOf 0 = .ok (.iload_n 1, 1) := by decide +kernel
theorem dX4_sizeOfPartOf_1 : decode cX4_sizeOfPartOf 1 = .ok (.ifCond .lt 18, 3) := by decide +kernel
theorem dX4_sizeOfPartOf_4 : decode cX4_sizeOfPartOf 4 = .ok (.iload_n 1, 1) := by decide +kernel
theorem dX4_sizeOfPartOf_5 : decode cX4_sizeOfPartOf 5 = .ok (.bipush 40, 2) := by decide +kernel
theorem dX4_sizeOfPartOf_7 : decode cX4_sizeOfPartOf 7 = .ok (.if_icmp .ge 12, 3) := by decide +kernel
theorem dX4_sizeOfPartOf_10 : decode cX4_sizeOfPartOf 10 = .ok (.aload_n 0, 1) := by decide +kernel
theorem dX4_sizeOfPartOf_11 : decode cX4_sizeOfPartOf 11 = .ok (.getfield 9, 3) := by decide +kernel
theorem dX4_sizeOfPartOf_14 : decode cX4_sizeOfPartOf 14 = .ok (.iload_n 1, 1) := by decide +kernel
theorem dX4_sizeOfPartOf_15 : decode cX4_sizeOfPartOf 15 = .ok (.iaload, 1) := by decide +kernel
theorem dX4_sizeOfPartOf_16 : decode cX4_sizeOfPartOf 16 = .ok (.goto 4, 3) := by decide +kernel
theorem dX4_sizeOfPartOf_19 : decode cX4_sizeOfPartOf 19 = .ok (.iconst (-1), 1) := by decide +kernel
theorem dX4_sizeOfPartOf_20 : decode cX4_sizeOfPartOf 20 = .ok (.istore_n 2, 1) := by decide +kernel
theorem dX4_sizeOfPartOf_21 : decode cX4_sizeOfPartOf 21 = .ok (.iload_n 2, 1) := by decide +kernel
theorem dX4_sizeOfPartOf_22 : decode cX4_sizeOfPartOf 22 = .ok (.ifCond .lt 18, 3) := by decide +kernel
theorem dX4_sizeOfPartOf_25 : decode cX4_sizeOfPartOf 25 = .ok (.iload_n 2, 1) := by decide +kernel
theorem dX4_sizeOfPartOf_26 : decode cX4_sizeOfPartOf 26 = .ok (.bipush 40, 2) := by decide +kernel
theorem dX4_sizeOfPartOf_28 : decode cX4_sizeOfPartOf 28 = .ok (.if_icmp .ge 12, 3) := by decide +kernel
theorem dX4_sizeOfPartOf_31 : decode cX4_sizeOfPartOf 31 = .ok (.aload_n 0, 1) := by decide +kernel
theorem dX4_sizeOfPartOf_32 : decode cX4_sizeOfPartOf 32 = .ok (.getfield 15, 3) := by decide +kernel
theorem dX4_sizeOfPartOf_35 : decode cX4_sizeOfPartOf 35 = .ok (.iload_n 2, 1) := by decide +kernel
theorem dX4_sizeOfPartOf_36 : decode cX4_sizeOfPartOf 36 = .ok (.iaload, 1) := by decide +kernel
theorem dX4_sizeOfPartOf_37 : decode cX4_sizeOfPartOf 37 = .ok (.goto 4, 3) := by decide +kernel
theorem dX4_sizeOfPartOf_40 : decode cX4_sizeOfPartOf 40 = .ok (.iconst (-1), 1) := by decide +kernel
theorem dX4_sizeOfPartOf_41 : decode cX4_sizeOfPartOf 41 = .ok (.ireturn, 1) := by decide +kernel
theorem dX5_init_0 : decode cX5_init 0 = .ok (.aload_n 0, 1) := by decide +kernel
theorem dX5_init_1 : decode cX5_init 1 = .ok (.invokespecial 3, 3) := by decide +kernel
theorem dX5_init_4 : decode cX5_init 4 = .ok (.aload_n 0, 1) := by decide +kernel
theorem dX5_init_5 : decode cX5_init 5 = .ok (.iconst 0, 1) := by decide +kernel
theorem dX5_init_6 : decode cX5_init 6 = .ok (.putfield 9, 3) := by decide +kernel
theorem dX5_init_9 : decode cX5_init 9 = .ok (.aload_n 0, 1) := by decide +kernel
theorem dX5_init_10 : decode cX5_init 10 = .ok (.iconst 0, 1) := by decide +kernel
theorem dX5_init_11 : decode cX5_init 11 = .ok (.putfield 15, 3) := by decide +kernel
theorem dX5_init_14 : decode cX5_init 14 = .ok (.aload_n 0, 1) := by decide +kernel
theorem dX5_init_15 : decode cX5_init 15 = .ok (.iconst 0, 1) := by decide +kernel
theorem dX5_init_16 : decode cX5_init 16 = .ok (.putfield 18, 3) := by decide +kernel
theorem dX5_init_19 : decode cX5_init 19 = .ok (.aload_n 0, 1) := by decide +kernel
theorem dX5_init_20 : decode cX5_init 20 = .ok (.iconst 0, 1) := by decide +kernel
theorem dX5_init_21 : decode cX5_init 21 = .ok (.putfield 22, 3) := by decide +kernel
theorem dX5_init_24 : decode cX5_init 24 = .ok (.aload_n 0, 1) := by decide +kernel
theorem dX5_init_25 : decode cX5_init 25 = .ok (.iconst 0, 1) := by decide +kernel
theorem dX5_init_26 : decode cX5_init 26 = .ok (.putfield 25, 3) := by decide +kernel
theorem dX5_init_29 : decode cX5_init 29 = .ok (.aload_n 0, 1) := by decide +kernel
theorem dX5_init_30 : decode cX5_init 30 = .ok (.iconst 0, 1) := by decide +kernel
theorem dX5_init_31 : decode cX5_init 31 = .ok (.putfield 28, 3) := by decide +kernel
theorem dX5_init_34 : decode cX5_init 34 = .ok (.aload_n 0, 1) := by decide +kernel
theorem dX5_init_35 : decode cX5_init 35 = .ok (.bipush 6, 2) := by decide +kernel
theorem dX5_init_37 : decode cX5_init 37 = .ok (.newarray .long, 2) := by decide +kernel
theorem dX5_init_39 : decode cX5_init 39 = .ok (.putfield 31, 3) := by decide +kernel
theorem dX5_init_42 : decode cX5_init 42 = .ok (.aload_n 0, 1) := by decide +kernel
theorem dX5_init_43 : decode cX5_init 43 = .ok (.bipush 6, 2) := by decide +kernel
theorem dX5_init_45 : decode cX5_init 45 = .ok (.newarray .int, 2) := by decide +kernel
theorem dX5_init_47 : decode cX5_init 47 = .ok (.putfield 35, 3) := by decide +kernel
theorem dX5_init_50 : decode cX5_init 50 = .ok (.aload_n 0, 1) := by decide +kernel
theorem dX5_init_51 : decode cX5_init 51 = .ok (.bipush 6, 2) := by decide +kernel
theorem dX5_init_53 : decode cX5_init 53 = .ok (.newarray .int, 2) := by decide +kernel
theorem dX5_init_55 : decode cX5_init 55 = .ok (.putfield 39, 3) := by decide +kernel
theorem dX5_init_58 : decode cX5_init 58 = .ok (.aload_n 0, 1) := by decide +kernel
theorem dX5_init_59 : decode cX5_init 59 = .ok (.sipush 800, 3) := by decide +kernel
theorem dX5_init_62 : decode cX5_init 62 = .ok (.newarray .int, 2) := by decide +kernel
theorem dX5_init_64 : decode cX5_init 64 = .ok (.putfield 42, 3) := by decide +kernel
theorem dX5_init_67 : decode cX5_init 67 = .ok (.aload_n 0, 1) := by decide +kernel
theorem dX5_init_68 : decode cX5_init 68 = .ok (.sipush 800, 3) := by decide +kernel
theorem dX5_init_71 : decode cX5_init 71 = .ok (.newarray .int, 2) := by decide +kernel
theorem dX5_init_73 : decode cX5_init 73 = .ok (.putfield 45, 3) := by decide +kernel
theorem dX5_init_76 : decode cX5_init 76 = .ok (.aload_n 0, 1) := by decide +kernel
theorem dX5_init_77 : decode cX5_init 77 = .ok (.bipush 12, 2) := by decide +kernel
theorem dX5_init_79 : decode cX5_init 79 = .ok (.newarray .int, 2) := by decide +kernel
theorem dX5_init_81 : decode cX5_init 81 = .ok (.putfield 48, 3) := by decide +kernel
theorem dX5_init_84 : decode cX5_init 84 = .ok (.aload_n 0, 1) := by decide +kernel
theorem dX5_init_85 : decode cX5_init 85 = .ok (.bipush 40, 2) := by decide +kernel
theorem dX5_init_87 : decode cX5_init 87 = .ok (.newarray .int, 2) := by decide +kernel
theorem dX5_init_89 : decode cX5_init 89 = .ok (.putfield 51, 3) := by decide +kernel
theorem dX5_init_92 : decode cX5_init 92 = .ok (.return_, 1) := by decide +kernel
theorem dX5_clear_0 : decode cX5_clear 0 = .ok (.aload_n 0, 1) := by decide +kernel
theorem dX5_clear_1 : decode cX5_clear 1 = .ok (.iconst 0, 1) := by decide +kernel
theorem dX5_clear_2 : decode cX5_clear 2 = .ok (.putfield 9, 3) := by decide +kernel
theorem dX5_clear_5 : decode cX5_clear 5 = .ok (.aload_n 0, 1) := by decide +kernel
theorem dX5_clear_6 : decode cX5_clear 6 = .ok (.iconst 0, 1) := by decide +kernel
theorem dX5_clear_7 : decode cX5_clear 7 = .ok (.putfield 15, 3) := by decide +kernel
theorem dX5_clear_10 : decode cX5_clear 10 = .ok (.aload_n 0, 1) := by decide +kernel
theorem dX5_clear_11 : decode cX5_clear 11 = .ok (.iconst 0, 1) := by decide +kernel
theorem dX5_clear_12 : decode cX5_clear 12 = .ok (.putfield 28, 3) := by decide +kernel
theorem dX5_clear_15 : decode cX5_clear 15 = .ok (.aload_n 0, 1) := by decide +kernel
theorem dX5_clear_16 : decode cX5_clear 16 = .ok (.iconst 0, 1) := by decide +kernel
theorem dX5_clear_17 : decode cX5_clear 17 = .ok (.putfield 18, 3) := by decide +kernel
theorem dX5_clear_20 : decode cX5_clear 20 = .ok (.return_, 1) := by decide +kernel
theorem dX5_copyFrom_0 : decode cX5_copyFrom 0 = .ok (.aload_n 0, 1) := by decide +kernel
theorem dX5_copyFrom_1 : decode cX5_copyFrom 1 = .ok (.aload_n 1, 1) := by decide +kernel
theorem dX5_copyFrom_2 : decode cX5_copyFrom 2 = .ok (.getfield 9, 3) := by decide +kernel
theorem dX5_copyFrom_5 : decode cX5_copyFrom 5 = .ok (.putfield 9, 3) := by decide +kernel
theorem dX5_copyFrom_8 : decode cX5_copyFrom 8 = .ok (.aload_n 0, 1) := by decide +kernel
theorem dX5_copyFrom_9 : decode cX5_copyFrom 9 = .ok (.aload_n 1, 1) := by decide +kernel
theorem dX5_copyFrom_10 : decode cX5_copyFrom 10 = .ok (.getfield 15, 3) := by decide +kernel
theorem dX5_copyFrom_13 : decode cX5_copyFrom 13 = .ok (.putfield 15, 3) := by decide +kernel
theorem dX5_copyFrom_16 : decode cX5_copyFrom 16 = .ok (.aload_n 0, 1) := by decide +kernel
theorem dX5_copyFrom_17 : decode cX5_copyFrom 17 = .ok (.aload_n 1, 1) := by decide +kernel
theorem dX5_copyFrom_18 : decode cX5_copyFrom 18 = .ok (.getfield 28, 3) := by decide +kernel
theorem dX5_copyFrom_21 : decode cX5_copyFrom 21 = .ok (.putfield 28, 3) := by decide +kernel
theorem dX5_copyFrom_24 : decode cX5_copyFrom 24 = .ok (.aload_n 0, 1) := by decide +kernel
theorem dX5_copyFrom_25 : decode cX5_copyFrom 25 = .ok (.aload_n 1, 1) := by decide +kernel
theorem dX5_copyFrom_26 : decode cX5_copyFrom 26 = .ok (.getfield 18, 3) := by decide +kernel
theorem dX5_copyFrom_29 : decode cX5_copyFrom 29 = .ok (.putfield 18, 3) := by decide +kernel
theorem dX5_copyFrom_32 : decode cX5_copyFrom 32 = .ok (.aload_n 0, 1) := by decide +kernel
theorem dX5_copyFrom_33 : decode cX5_copyFrom 33 = .ok (.aload_n 1, 1) := by decide +kernel
theorem dX5_copyFrom_34 : decode cX5_copyFrom 34 = .ok (.getfield 22, 3) := by decide +kernel
theorem dX5_copyFrom_37 : decode cX5_copyFrom 37 = .ok (.putfield 22, 3) := by decide +kernel
theorem dX5_copyFrom_40 : decode cX5_copyFrom 40 = .ok (.aload_n 0, 1) := by decide +kernel
theorem dX5_copyFrom_41 : decode cX5_copyFrom 41 = .ok (.aload_n 1, 1) := by decide +kernel
theorem dX5_copyFrom_42 : decode cX5_copyFrom 42 = .ok (.getfield 25, 3) := by decide +kernel
theorem dX5_copyFrom_45 : decode cX5_copyFrom 45 = .ok (.putfield 25, 3) := by decide +kernel
theorem dX5_copyFrom_48 : decode cX5_copyFrom 48 = .ok (.iconst 0, 1) := by decide +kernel
theorem dX5_copyFrom_49 : decode cX5_copyFrom 49 = .ok (.istore_n 2, 1) := by decide +kernel
theorem dX5_copyFrom_50 : decode cX5_copyFrom 50 = .ok (.iload_n 2, 1) := by decide +kernel
theorem dX5_copyFrom_51 : decode cX5_copyFrom 51 = .ok (.bipush 6, 2) := by decide +kernel
theorem dX5_copyFrom_53 : decode cX5_copyFrom 53 = .ok (.if_icmp .ge 45, 3) := by decide +kernel
theorem dX5_copyFrom_56 : decode cX5_copyFrom 56 = .ok (.aload_n 0, 1) := by decide +kernel
theorem dX5_copyFrom_57 : decode cX5_copyFrom 57 = .ok (.getfield 31, 3) := by decide +kernel
theorem dX5_copyFrom_60 : decode cX5_copyFrom 60 = .ok (.iload_n 2, 1) := by decide +kernel
theorem dX5_copyFrom_61 : decode cX5_copyFrom 61 = .ok (.aload_n 1, 1) := by decide +kernel
theorem dX5_copyFrom_62 : decode cX5_copyFrom 62 = .ok (.getfield 31, 3) := by decide +kernel
theorem dX5_copyFrom_65 : decode cX5_copyFrom 65 = .ok (.iload_n 2, 1) := by decide +kernel
theorem dX5_copyFrom_66 : decode cX5_copyFrom 66 = .ok (.laload, 1) := by decide +kernel
theorem dX5_copyFrom_67 : decode cX5_copyFrom 67 = .ok (.lastore, 1) := by decide +kernel
theorem dX5_copyFrom_68 : decode cX5_copyFrom 68 = .ok (.aload_n 0, 1) := by decide +kernel
theorem dX5_copyFrom_69 : decode cX5_copyFrom 69 = .ok (.getfield 35, 3) := by decide +kernel
theorem dX5_copyFrom_72 : decode cX5_copyFrom 72 = .ok (.iload_n 2, 1) := by decide +kernel
theorem dX5_copyFrom_73 : decode cX5_copyFrom 73 = .ok (.aload_n 1, 1) := by decide +kernel
theorem dX5_copyFrom_74 : decode cX5_copyFrom 74 = .ok (.getfield 35, 3) := by decide +kernel
theorem dX5_copyFrom_77 : decode cX5_copyFrom 77 = .ok (.iload_n 2, 1) := by decide +kernel
theorem dX5_copyFrom_78 : decode cX5_copyFrom 78 = .ok (.iaload, 1) := by decide +kernel
theorem dX5_copyFrom_79 : decode cX5_copyFrom 79 = .ok (.iastore, 1) := by decide +kernel
theorem dX5_copyFrom_80 : decode cX5_copyFrom 80 = .ok (.aload_n 0, 1) := by decide +kernel
theorem dX5_copyFrom_81 : decode cX5_copyFrom 81 = .ok (.getfield 39, 3) := by decide +kernel
theorem dX5_copyFrom_84 : decode cX5_copyFrom 84 = .ok (.iload_n 2, 1) := by decide +kernel
theorem dX5_copyFrom_85 : decode cX5_copyFrom 85 = .ok (.aload_n 1, 1) := by decide +kernel
theorem dX5_copyFrom_86 : decode cX5_copyFrom 86 = .ok (.getfield 39, 3) := by decide +kernel
theorem dX5_copyFrom_89 : decode cX5_copyFrom 89 = .ok (.iload_n 2, 1) := by decide +kernel
theorem dX5_copyFrom_90 : decode cX5_copyFrom 90 = .ok (.iaload, 1) := by decide +kernel
theorem dX5_copyFrom_91 : decode cX5_copyFrom 91 = .ok (.iastore, 1) := by decide +kernel
theorem dX5_copyFrom_92 : decode cX5_copyFrom 92 = .ok (.iinc 2 1, 3) := by decide +kernel
theorem dX5_copyFrom_95 : decode cX5_copyFrom 95 = .ok (.goto (-45), 3) := by decide +kernel
theorem dX5_copyFrom_98 : decode cX5_copyFrom 98 = .ok (.iconst 0, 1) := by decide +kernel
theorem dX5_copyFrom_99 : decode cX5_copyFrom 99 = .ok (.istore_n 2, 1) := by decide +kernel
theorem dX5_copyFrom_100 : decode cX5_copyFrom 100 = .ok (.iload_n 2, 1) := by decide +kernel
theorem dX5_copyFrom_101 : decode cX5_copyFrom 101 = .ok (.aload_n 0, 1) := by decide +kernel
theorem dX5_copyFrom_102 : decode cX5_copyFrom 102 = .ok (.getfield 28, 3) := by decide +kernel
theorem dX5_copyFrom_105 : decode cX5_copyFrom 105 = .ok (.if_icmp .ge 40, 3) := by decide +kernel
theorem dX5_copyFrom_108 : decode cX5_copyFrom 108 = .ok (.iload_n 2, 1) := by decide +kernel
theorem dX5_copyFrom_109 : decode cX5_copyFrom 109 = .ok (.sipush 800, 3) := by decide +kernel
theorem dX5_copyFrom_112 : decode cX5_copyFrom 112 = .ok (.if_icmp .ge 33, 3) := by decide +kernel
theorem dX5_copyFrom_115 : decode cX5_copyFrom 115 = .ok (.aload_n 0, 1) := by decide +kernel
theorem dX5_copyFrom_116 : decode cX5_copyFrom 116 = .ok (.getfield 42, 3) := by decide +kernel
theorem dX5_copyFrom_119 : decode cX5_copyFrom 119 = .ok (.iload_n 2, 1) := by decide +kernel
theorem dX5_copyFrom_120 : decode cX5_copyFrom 120 = .ok (.aload_n 1, 1) := by decide +kernel
theorem dX5_copyFrom_121 : decode cX5_copyFrom 121 = .ok (.getfield 42, 3) := by decide +kernel
theorem dX5_copyFrom_124 : decode cX5_copyFrom 124 = .ok (.iload_n 2, 1) := by decide +kernel
theorem dX5_copyFrom_125 : decode cX5_copyFrom 125 = .ok (.iaload, 1) := by decide +kernel
theorem dX5_copyFrom_126 : decode cX5_copyFrom 126 = .ok (.iastore, 1) := by decide +kernel
theorem dX5_copyFrom_127 : decode cX5_copyFrom 127 = .ok (.aload_n 0, 1) := by decide +kernel
theorem dX5_copyFrom_128 : decode cX5_copyFrom 128 = .ok (.getfield 45, 3) := by decide +kernel
theorem dX5_copyFrom_131 : decode cX5_copyFrom 131 = .ok (.iload_n 2, 1) := by decide +kernel
theorem dX5_copyFrom_132 : decode cX5_copyFrom 132 = .ok (.aload_n 1, 1) := by decide +kernel
theorem dX5_copyFrom_133 : decode cX5_copyFrom 133 = .ok (.getfield 45, 3) := by decide +kernel
theorem dX5_copyFrom_136 : decode cX5_copyFrom 136 = .ok (.iload_n 2, 1) := by decide +kernel
theorem dX5_copyFrom_137 : decode cX5_copyFrom 137 = .ok (.iaload, 1) := by decide +kernel
theorem dX5_copyFrom_138 : decode cX5_copyFrom 138 = .ok (.iastore, 1) := by decide +kernel
theorem dX5_copyFrom_139 : decode cX5_copyFrom 139 = .ok (.iinc 2 1, 3) := by decide +kernel
theorem dX5_copyFrom_142 : decode cX5_copyFrom 142 = .ok (.goto (-42), 3) := by decide +kernel
theorem dX5_copyFrom_145 : decode cX5_copyFrom 145 = .ok (.return_, 1) := by decide +kernel
theorem dX5_lines_0 : decode cX5_lines 0 = .ok (.aload_n 0, 1) := by decide +kernel
theorem dX5_lines_1 : decode cX5_lines 1 = .ok (.getfield 9, 3) := by decide +kernel
theorem dX5_lines_4 : decode cX5_lines 4 = .ok (.aload_n 0, 1) := by decide +kernel
theorem dX5_lines_5 : decode cX5_lines 5 = .ok (.getfield 18, 3) := by decide +kernel
theorem dX5_lines_8 : decode cX5_lines 8 = .ok (.ifCond .eq 7, 3) := by decide +kernel
theorem dX5_lines_11 : decode cX5_lines 11 = .ok (.iconst 1, 1) := by decide +kernel
theorem dX5_lines_12 : decode cX5_lines 12 = .ok (.goto 4, 3) := by decide +kernel
theorem dX5_lines_15 : decode cX5_lines 15 = .ok (.iconst 0, 1) := by decide +kernel
theorem dX5_lines_16 : decode cX5_lines 16 = .ok (.iadd, 1) := by decide +kernel
theorem dX5_lines_17 : decode cX5_lines 17 = .ok (.ireturn, 1) := by decide +kernel
theorem dX5_put_0 : decode cX5_put 0 = .ok (.aload_n 0, 1) := by decide +kernel
theorem dX5_put_1 : decode cX5_put 1 = .ok (.getfield 28, 3) := by decide +kernel
theorem dX5_put_4 : decode cX5_put 4 = .ok (.sipush 800, 3) := by decide +kernel
theorem dX5_put_7 : decode cX5_put 7 = .ok (.if_icmp .ge 33, 3) := by decide +kernel
theorem dX5_put_10 : decode cX5_put 10 = .ok (.aload_n 0, 1) := by decide +kernel
theorem dX5_put_11 : decode cX5_put 11 = .ok (.getfield 42, 3) := by decide +kernel
theorem dX5_put_14 : decode cX5_put 14 = .ok (.aload_n 0, 1) := by decide +kernel
theorem dX5_put_15 : decode cX5_put 15 = .ok (.getfield 28, 3) := by decide +kernel
theorem dX5_put_18 : decode cX5_put 18 = .ok (.iload_n 1, 1) := by decide +kernel
theorem dX5_put_19 : decode cX5_put 19 = .ok (.iastore, 1) := by decide +kernel
theorem dX5_put_20 : decode cX5_put 20 = .ok (.aload_n 0, 1) := by decide +kernel
theorem dX5_put_21 : decode cX5_put 21 = .ok (.getfield 45, 3) := by decide +kernel
theorem dX5_put_24 : decode cX5_put 24 = .ok (.aload_n 0, 1) := by decide +kernel
theorem dX5_put_25 : decode cX5_put 25 = .ok (.getfield 28, 3) := by decide +kernel
theorem dX5_put_28 : decode cX5_put 28 = .ok (.iload_n 2, 1) := by decide +kernel
theorem dX5_put_29 : decode cX5_put 29 = .ok (.iastore, 1) := by decide +kernel
theorem dX5_put_30 : decode cX5_put 30 = .ok (.aload_n 0, 1) := by decide +kernel
theorem dX5_put_31 : decode cX5_put 31 = .ok (.dup, 1) := by decide +kernel
theorem dX5_put_32 : decode cX5_put 32 = .ok (.getfield 28, 3) := by decide +kernel
theorem dX5_put_35 : decode cX5_put 35 = .ok (.iconst 1, 1) := by decide +kernel
theorem dX5_put_36 : decode cX5_put 36 = .ok (.iadd, 1) := by decide +kernel
theorem dX5_put_37 : decode cX5_put 37 = .ok (.putfield 28, 3) := by decide +kernel
theorem dX5_put_40 : decode cX5_put 40 = .ok (.return_, 1) := by decide +kernel
theorem dX5_stepsSoFar_0 : decode cX5_stepsSoFar 0 = .ok (.aload_n 0, 1) := by decide +kernel
theorem dX5_stepsSoFar_1 : decode cX5_stepsSoFar 1 = .ok (.getfield 28, 3) := by decide +kernel
theorem dX5_stepsSoFar_4 : decode cX5_stepsSoFar 4 = .ok (.ireturn, 1) := by decide +kernel
theorem dX5_hasSign_0 : decode cX5_hasSign 0 = .ok (.iconst 0, 1) := by decide +kernel
theorem dX5_hasSign_1 : decode cX5_hasSign 1 = .ok (.istore_n 3, 1) := by decide +kernel
theorem dX5_hasSign_2 : decode cX5_hasSign 2 = .ok (.iload_n 3, 1) := by decide +kernel
theorem dX5_hasSign_3 : decode cX5_hasSign 3 = .ok (.aload_n 0, 1) := by decide +kernel
theorem dX5_hasSign_4 : decode cX5_hasSign 4 = .ok (.getfield 9, 3) := by decide +kernel
theorem dX5_hasSign_7 : decode cX5_hasSign 7 = .ok (.if_icmp .ge 28, 3) := by decide +kernel
theorem dX5_hasSign_10 : decode cX5_hasSign 10 = .ok (.iload_n 3, 1) := by decide +kernel
theorem dX5_hasSign_11 : decode cX5_hasSign 11 = .ok (.bipush 6, 2) := by decide +kernel
theorem dX5_hasSign_13 : decode cX5_hasSign 13 = .ok (.if_icmp .ge 22, 3) := by decide +kernel
theorem dX5_hasSign_16 : decode cX5_hasSign 16 = .ok (.aload_n 0, 1) := by decide +kernel
theorem dX5_hasSign_17 : decode cX5_hasSign 17 = .ok (.getfield 31, 3) := by decide +kernel
theorem dX5_hasSign_20 : decode cX5_hasSign 20 = .ok (.iload_n 3, 1) := by decide +kernel
theorem dX5_hasSign_21 : decode cX5_hasSign 21 = .ok (.laload, 1) := by decide +kernel
theorem dX5_hasSign_22 : decode cX5_hasSign 22 = .ok (.lload_n 1, 1) := by decide +kernel
theorem dX5_hasSign_23 : decode cX5_hasSign 23 = .ok (.lcmp, 1) := by decide +kernel
theorem dX5_hasSign_24 : decode cX5_hasSign 24 = .ok (.ifCond .ne 5, 3) := by decide +kernel
theorem dX5_hasSign_27 : decode cX5_hasSign 27 = .ok (.iconst 1, 1) := by decide +kernel
theorem dX5_hasSign_28 : decode cX5_hasSign 28 = .ok (.ireturn, 1) := by decide +kernel
theorem dX5_hasSign_29 : decode cX5_hasSign 29 = .ok (.iinc 3 1, 3) := by decide +kernel
theorem dX5_hasSign_32 : decode cX5_hasSign 32 = .ok (.goto (-30), 3) := by decide +kernel
theorem dX5_hasSign_35 : decode cX5_hasSign 35 = .ok (.iconst 0, 1) := by decide +kernel
theorem dX5_hasSign_36 : decode cX5_hasSign 36 = .ok (.ireturn, 1) := by decide +kernel
theorem dX5_addBar_0 : decode cX5_addBar 0 = .ok (.aload_n 0, 1) := by decide +kernel
theorem dX5_addBar_1 : decode cX5_addBar 1 = .ok (.iconst 1, 1) := by decide +kernel
theorem dX5_addBar_2 : decode cX5_addBar 2 = .ok (.putfield 18, 3) := by decide +kernel
theorem dX5_addBar_5 : decode cX5_addBar 5 = .ok (.aload_n 0, 1) := by decide +kernel
theorem dX5_addBar_6 : decode cX5_addBar 6 = .ok (.iload_n 1, 1) := by decide +kernel
theorem dX5_addBar_7 : decode cX5_addBar 7 = .ok (.putfield 22, 3) := by decide +kernel
theorem dX5_addBar_10 : decode cX5_addBar 10 = .ok (.aload_n 0, 1) := by decide +kernel
theorem dX5_addBar_11 : decode cX5_addBar 11 = .ok (.aload_n 0, 1) := by decide +kernel
theorem dX5_addBar_12 : decode cX5_addBar 12 = .ok (.getfield 28, 3) := by decide +kernel
theorem dX5_addBar_15 : decode cX5_addBar 15 = .ok (.putfield 25, 3) := by decide +kernel
theorem dX5_addBar_18 : decode cX5_addBar 18 = .ok (.return_, 1) := by decide +kernel
theorem dX5_addSign_0 : decode cX5_addSign 0 = .ok (.aload_n 0, 1) := by decide +kernel
theorem dX5_addSign_1 : decode cX5_addSign 1 = .ok (.getfield 9, 3) := by decide +kernel
theorem dX5_addSign_4 : decode cX5_addSign 4 = .ok (.bipush 6, 2) := by decide +kernel
theorem dX5_addSign_6 : decode cX5_addSign 6 = .ok (.if_icmp .ge 46, 3) := by decide +kernel
theorem dX5_addSign_9 : decode cX5_addSign 9 = .ok (.aload_n 0, 1) := by decide +kernel
theorem dX5_addSign_10 : decode cX5_addSign 10 = .ok (.getfield 31, 3) := by decide +kernel
theorem dX5_addSign_13 : decode cX5_addSign 13 = .ok (.aload_n 0, 1) := by decide +kernel
theorem dX5_addSign_14 : decode cX5_addSign 14 = .ok (.getfield 9, 3) := by decide +kernel
theorem dX5_addSign_17 : decode cX5_addSign 17 = .ok (.lload_n 1, 1) := by decide +kernel
theorem dX5_addSign_18 : decode cX5_addSign 18 = .ok (.lastore, 1) := by decide +kernel
theorem dX5_addSign_19 : decode cX5_addSign 19 = .ok (.aload_n 0, 1) := by decide +kernel
theorem dX5_addSign_20 : decode cX5_addSign 20 = .ok (.getfield 35, 3) := by decide +kernel
theorem dX5_addSign_23 : decode cX5_addSign 23 = .ok (.aload_n 0, 1) := by decide +kernel
theorem dX5_addSign_24 : decode cX5_addSign 24 = .ok (.getfield 9, 3) := by decide +kernel
theorem dX5_addSign_27 : decode cX5_addSign 27 = .ok (.iload_n 3, 1) := by decide +kernel
theorem dX5_addSign_28 : decode cX5_addSign 28 = .ok (.iastore, 1) := by decide +kernel
theorem dX5_addSign_29 : decode cX5_addSign 29 = .ok (.aload_n 0, 1) := by decide +kernel
theorem dX5_addSign_30 : decode cX5_addSign 30 = .ok (.getfield 39, 3) := by decide +kernel
theorem dX5_addSign_33 : decode cX5_addSign 33 = .ok (.aload_n 0, 1) := by decide +kernel
theorem dX5_addSign_34 : decode cX5_addSign 34 = .ok (.getfield 9, 3) := by decide +kernel
theorem dX5_addSign_37 : decode cX5_addSign 37 = .ok (.aload_n 0, 1) := by decide +kernel
theorem dX5_addSign_38 : decode cX5_addSign 38 = .ok (.getfield 28, 3) := by decide +kernel
theorem dX5_addSign_41 : decode cX5_addSign 41 = .ok (.iastore, 1) := by decide +kernel
theorem dX5_addSign_42 : decode cX5_addSign 42 = .ok (.aload_n 0, 1) := by decide +kernel
theorem dX5_addSign_43 : decode cX5_addSign 43 = .ok (.dup, 1) := by decide +kernel
theorem dX5_addSign_44 : decode cX5_addSign 44 = .ok (.getfield 9, 3) := by decide +kernel
theorem dX5_addSign_47 : decode cX5_addSign 47 = .ok (.iconst 1, 1) := by decide +kernel
theorem dX5_addSign_48 : decode cX5_addSign 48 = .ok (.iadd, 1) := by decide +kernel
theorem dX5_addSign_49 : decode cX5_addSign 49 = .ok (.putfield 9, 3) := by decide +kernel
theorem dX5_addSign_52 : decode cX5_addSign 52 = .ok (.return_, 1) := by decide +kernel
theorem dX5_lets_0 : decode cX5_lets 0 = .ok (.aload_n 0, 1) := by decide +kernel
theorem dX5_lets_1 : decode cX5_lets 1 = .ok (.getfield 18, 3) := by decide +kernel
theorem dX5_lets_4 : decode cX5_lets 4 = .ok (.ifCond .ne 15, 3) := by decide +kernel
theorem dX5_lets_7 : decode cX5_lets 7 = .ok (.iload_n 1, 1) := by decide +kernel
theorem dX5_lets_8 : decode cX5_lets 8 = .ok (.bipush 40, 2) := by decide +kernel
theorem dX5_lets_10 : decode cX5_lets 10 = .ok (.if_icmp .ge 7, 3) := by decide +kernel
theorem dX5_lets_13 : decode cX5_lets 13 = .ok (.iconst 1, 1) := by decide +kernel
theorem dX5_lets_14 : decode cX5_lets 14 = .ok (.goto 4, 3) := by decide +kernel
theorem dX5_lets_17 : decode cX5_lets 17 = .ok (.iconst 0, 1) := by decide +kernel
theorem dX5_lets_18 : decode cX5_lets 18 = .ok (.ireturn, 1) := by decide +kernel
theorem dX5_lets_19 : decode cX5_lets 19 = .ok (.aload_n 0, 1) := by decide +kernel
theorem dX5_lets_20 : decode cX5_lets 20 = .ok (.getfield 48, 3) := by decide +kernel
theorem dX5_lets_23 : decode cX5_lets 23 = .ok (.iconst 0, 1) := by decide +kernel
theorem dX5_lets_24 : decode cX5_lets 24 = .ok (.iload_n 1, 1) := by decide +kernel
theorem dX5_lets_25 : decode cX5_lets 25 = .ok (.iastore, 1) := by decide +kernel
theorem dX5_lets_26 : decode cX5_lets 26 = .ok (.aload_n 0, 1) := by decide +kernel
theorem dX5_lets_27 : decode cX5_lets 27 = .ok (.getfield 48, 3) := by decide +kernel
theorem dX5_lets_30 : decode cX5_lets 30 = .ok (.iconst 1, 1) := by decide +kernel
theorem dX5_lets_31 : decode cX5_lets 31 = .ok (.iload_n 2, 1) := by decide +kernel
theorem dX5_lets_32 : decode cX5_lets 32 = .ok (.iastore, 1) := by decide +kernel
theorem dX5_lets_33 : decode cX5_lets 33 = .ok (.aload_n 0, 1) := by decide +kernel
theorem dX5_lets_34 : decode cX5_lets 34 = .ok (.getfield 48, 3) := by decide +kernel
theorem dX5_lets_37 : decode cX5_lets 37 = .ok (.iconst 2, 1) := by decide +kernel
theorem dX5_lets_38 : decode cX5_lets 38 = .ok (.iload_n 3, 1) := by decide +kernel
theorem dX5_lets_39 : decode cX5_lets 39 = .ok (.iastore, 1) := by decide +kernel
theorem dX5_lets_40 : decode cX5_lets 40 = .ok (.aload_n 0, 1) := by decide +kernel
theorem dX5_lets_41 : decode cX5_lets 41 = .ok (.getfield 48, 3) := by decide +kernel
theorem dX5_lets_44 : decode cX5_lets 44 = .ok (.iconst 3, 1) := by decide +kernel
theorem dX5_lets_45 : decode cX5_lets 45 = .ok (.iload 4, 2) := by decide +kernel
theorem dX5_lets_47 : decode cX5_lets 47 = .ok (.iastore, 1) := by decide +kernel
theorem dX5_lets_48 : decode cX5_lets 48 = .ok (.aload_n 0, 1) := by decide +kernel
theorem dX5_lets_49 : decode cX5_lets 49 = .ok (.aload_n 0, 1) := by decide +kernel
theorem dX5_lets_50 : decode cX5_lets 50 = .ok (.getfield 22, 3) := by decide +kernel
theorem dX5_lets_53 : decode cX5_lets 53 = .ok (.aload_n 0, 1) := by decide +kernel
theorem dX5_lets_54 : decode cX5_lets 54 = .ok (.getfield 25, 3) := by decide +kernel
theorem dX5_lets_57 : decode cX5_lets 57 = .ok (.invokevirtual 54, 3) := by decide +kernel
theorem dX5_lets_60 : decode cX5_lets 60 = .ok (.ifCond .eq 7, 3) := by decide +kernel
theorem dX5_lets_63 : decode cX5_lets 63 = .ok (.iconst 1, 1) := by decide +kernel
theorem dX5_lets_64 : decode cX5_lets 64 = .ok (.goto 4, 3) := by decide +kernel
theorem dX5_lets_67 : decode cX5_lets 67 = .ok (.iconst 0, 1) := by decide +kernel
theorem dX5_lets_68 : decode cX5_lets 68 = .ok (.ireturn, 1) := by decide +kernel
theorem dX5_shownBy_0 : decode cX5_shownBy 0 = .ok (.aload_n 0, 1) := by decide +kernel
theorem dX5_shownBy_1 : decode cX5_shownBy 1 = .ok (.aload_n 1, 1) := by decide +kernel
theorem dX5_shownBy_2 : decode cX5_shownBy 2 = .ok (.iload_n 2, 1) := by decide +kernel
theorem dX5_shownBy_3 : decode cX5_shownBy 3 = .ok (.invokevirtual 58, 3) := by decide +kernel
theorem dX5_shownBy_6 : decode cX5_shownBy 6 = .ok (.iconst 0, 1) := by decide +kernel
theorem dX5_shownBy_7 : decode cX5_shownBy 7 = .ok (.istore_n 3, 1) := by decide +kernel
theorem dX5_shownBy_8 : decode cX5_shownBy 8 = .ok (.iconst 0, 1) := by decide +kernel
theorem dX5_shownBy_9 : decode cX5_shownBy 9 = .ok (.istore 4, 2) := by decide +kernel
theorem dX5_shownBy_11 : decode cX5_shownBy 11 = .ok (.iload 4, 2) := by decide +kernel
theorem dX5_shownBy_13 : decode cX5_shownBy 13 = .ok (.aload_n 0, 1) := by decide +kernel
theorem dX5_shownBy_14 : decode cX5_shownBy 14 = .ok (.getfield 9, 3) := by decide +kernel
theorem dX5_shownBy_17 : decode cX5_shownBy 17 = .ok (.if_icmp .ge 44, 3) := by decide +kernel
theorem dX5_shownBy_20 : decode cX5_shownBy 20 = .ok (.iload 4, 2) := by decide +kernel
theorem dX5_shownBy_22 : decode cX5_shownBy 22 = .ok (.bipush 6, 2) := by decide +kernel
theorem dX5_shownBy_24 : decode cX5_shownBy 24 = .ok (.if_icmp .ge 37, 3) := by decide +kernel
theorem dX5_shownBy_27 : decode cX5_shownBy 27 = .ok (.aload_n 0, 1) := by decide +kernel
theorem dX5_shownBy_28 : decode cX5_shownBy 28 = .ok (.aload_n 0, 1) := by decide +kernel
theorem dX5_shownBy_29 : decode cX5_shownBy 29 = .ok (.getfield 35, 3) := by decide +kernel
theorem dX5_shownBy_32 : decode cX5_shownBy 32 = .ok (.iload 4, 2) := by decide +kernel
theorem dX5_shownBy_34 : decode cX5_shownBy 34 = .ok (.iaload, 1) := by decide +kernel
theorem dX5_shownBy_35 : decode cX5_shownBy 35 = .ok (.aload_n 0, 1) := by decide +kernel
theorem dX5_shownBy_36 : decode cX5_shownBy 36 = .ok (.getfield 39, 3) := by decide +kernel
theorem dX5_shownBy_39 : decode cX5_shownBy 39 = .ok (.iload 4, 2) := by decide +kernel
theorem dX5_shownBy_41 : decode cX5_shownBy 41 = .ok (.iaload, 1) := by decide +kernel
theorem dX5_shownBy_42 : decode cX5_shownBy 42 = .ok (.invokevirtual 54, 3) := by decide +kernel
theorem dX5_shownBy_45 : decode cX5_shownBy 45 = .ok (.ifCond .eq 10, 3) := by decide +kernel
theorem dX5_shownBy_48 : decode cX5_shownBy 48 = .ok (.iload_n 3, 1) := by decide +kernel
theorem dX5_shownBy_49 : decode cX5_shownBy 49 = .ok (.iconst 1, 1) := by decide +kernel
theorem dX5_shownBy_50 : decode cX5_shownBy 50 = .ok (.iload 4, 2) := by decide +kernel
theorem dX5_shownBy_52 : decode cX5_shownBy 52 = .ok (.ishl, 1) := by decide +kernel
theorem dX5_shownBy_53 : decode cX5_shownBy 53 = .ok (.ior, 1) := by decide +kernel
theorem dX5_shownBy_54 : decode cX5_shownBy 54 = .ok (.istore_n 3, 1) := by decide +kernel
theorem dX5_shownBy_55 : decode cX5_shownBy 55 = .ok (.iinc 4 1, 3) := by decide +kernel
theorem dX5_shownBy_58 : decode cX5_shownBy 58 = .ok (.goto (-47), 3) := by decide +kernel
theorem dX5_shownBy_61 : decode cX5_shownBy 61 = .ok (.iload_n 3, 1) := by decide +kernel
theorem dX5_shownBy_62 : decode cX5_shownBy 62 = .ok (.ireturn, 1) := by decide +kernel
theorem dX5_lookAt_0 : decode cX5_lookAt 0 = .ok (.aload_n 0, 1) := by decide +kernel
theorem dX5_lookAt_1 : decode cX5_lookAt 1 = .ok (.getfield 48, 3) := by decide +kernel
theorem dX5_lookAt_4 : decode cX5_lookAt 4 = .ok (.iconst 0, 1) := by decide +kernel
theorem dX5_lookAt_5 : decode cX5_lookAt 5 = .ok (.iconst 0, 1) := by decide +kernel
theorem dX5_lookAt_6 : decode cX5_lookAt 6 = .ok (.iastore, 1) := by decide +kernel
theorem dX5_lookAt_7 : decode cX5_lookAt 7 = .ok (.aload_n 0, 1) := by decide +kernel
theorem dX5_lookAt_8 : decode cX5_lookAt 8 = .ok (.getfield 48, 3) := by decide +kernel
theorem dX5_lookAt_11 : decode cX5_lookAt 11 = .ok (.iconst 1, 1) := by decide +kernel
theorem dX5_lookAt_12 : decode cX5_lookAt 12 = .ok (.iconst 0, 1) := by decide +kernel
theorem dX5_lookAt_13 : decode cX5_lookAt 13 = .ok (.iastore, 1) := by decide +kernel
theorem dX5_lookAt_14 : decode cX5_lookAt 14 = .ok (.aload_n 0, 1) := by decide +kernel
theorem dX5_lookAt_15 : decode cX5_lookAt 15 = .ok (.getfield 48, 3) := by decide +kernel
theorem dX5_lookAt_18 : decode cX5_lookAt 18 = .ok (.iconst 2, 1) := by decide +kernel
theorem dX5_lookAt_19 : decode cX5_lookAt 19 = .ok (.iconst 0, 1) := by decide +kernel
theorem dX5_lookAt_20 : decode cX5_lookAt 20 = .ok (.iastore, 1) := by decide +kernel
theorem dX5_lookAt_21 : decode cX5_lookAt 21 = .ok (.aload_n 0, 1) := by decide +kernel
theorem dX5_lookAt_22 : decode cX5_lookAt 22 = .ok (.getfield 48, 3) := by decide +kernel
theorem dX5_lookAt_25 : decode cX5_lookAt 25 = .ok (.iconst 3, 1) := by decide +kernel
theorem dX5_lookAt_26 : decode cX5_lookAt 26 = .ok (.bipush 99, 2) := by decide +kernel
theorem dX5_lookAt_28 : decode cX5_lookAt 28 = .ok (.iastore, 1) := by decide +kernel
theorem dX5_lookAt_29 : decode cX5_lookAt 29 = .ok (.iconst 0, 1) := by decide +kernel
theorem dX5_lookAt_30 : decode cX5_lookAt 30 = .ok (.istore_n 3, 1) := by decide +kernel
theorem dX5_lookAt_31 : decode cX5_lookAt 31 = .ok (.iload_n 3, 1) := by decide +kernel
theorem dX5_lookAt_32 : decode cX5_lookAt 32 = .ok (.iload_n 2, 1) := by decide +kernel
theorem dX5_lookAt_33 : decode cX5_lookAt 33 = .ok (.if_icmp .ge 109, 3) := by decide +kernel
theorem dX5_lookAt_36 : decode cX5_lookAt 36 = .ok (.iload_n 3, 1) := by decide +kernel
theorem dX5_lookAt_37 : decode cX5_lookAt 37 = .ok (.aload_n 1, 1) := by decide +kernel
theorem dX5_lookAt_38 : decode cX5_lookAt 38 = .ok (.arraylength, 1) := by decide +kernel
theorem dX5_lookAt_39 : decode cX5_lookAt 39 = .ok (.if_icmp .ge 103, 3) := by decide +kernel
theorem dX5_lookAt_42 : decode cX5_lookAt 42 = .ok (.iload_n 3, 1) := by decide +kernel
theorem dX5_lookAt_43 : decode cX5_lookAt 43 = .ok (.bipush 8, 2) := by decide +kernel
theorem dX5_lookAt_45 : decode cX5_lookAt 45 = .ok (.if_icmp .ge 97, 3) := by decide +kernel
theorem dX5_lookAt_48 : decode cX5_lookAt 48 = .ok (.aload_n 1, 1) := by decide +kernel
theorem dX5_lookAt_49 : decode cX5_lookAt 49 = .ok (.iload_n 3, 1) := by decide +kernel
theorem dX5_lookAt_50 : decode cX5_lookAt 50 = .ok (.iaload, 1) := by decide +kernel
theorem dX5_lookAt_51 : decode cX5_lookAt 51 = .ok (.istore 4, 2) := by decide +kernel
theorem dX5_lookAt_53 : decode cX5_lookAt 53 = .ok (.aload_n 0, 1) := by decide +kernel
theorem dX5_lookAt_54 : decode cX5_lookAt 54 = .ok (.getfield 48, 3) := by decide +kernel
theorem dX5_lookAt_57 : decode cX5_lookAt 57 = .ok (.iconst 0, 1) := by decide +kernel
theorem dX5_lookAt_58 : decode cX5_lookAt 58 = .ok (.dup2, 1) := by decide +kernel
theorem dX5_lookAt_59 : decode cX5_lookAt 59 = .ok (.iaload, 1) := by decide +kernel
theorem dX5_lookAt_60 : decode cX5_lookAt 60 = .ok (.iload 4, 2) := by decide +kernel
theorem dX5_lookAt_62 : decode cX5_lookAt 62 = .ok (.iadd, 1) := by decide +kernel
theorem dX5_lookAt_63 : decode cX5_lookAt 63 = .ok (.iastore, 1) := by decide +kernel
theorem dX5_lookAt_64 : decode cX5_lookAt 64 = .ok (.aload_n 0, 1) := by decide +kernel
theorem dX5_lookAt_65 : decode cX5_lookAt 65 = .ok (.getfield 48, 3) := by decide +kernel
theorem dX5_lookAt_68 : decode cX5_lookAt 68 = .ok (.iconst 1, 1) := by decide +kernel
theorem dX5_lookAt_69 : decode cX5_lookAt 69 = .ok (.dup2, 1) := by decide +kernel
theorem dX5_lookAt_70 : decode cX5_lookAt 70 = .ok (.iaload, 1) := by decide +kernel
theorem dX5_lookAt_71 : decode cX5_lookAt 71 = .ok (.iload_n 3, 1) := by decide +kernel
theorem dX5_lookAt_72 : decode cX5_lookAt 72 = .ok (.ifCond .ne 7, 3) := by decide +kernel
theorem dX5_lookAt_75 : decode cX5_lookAt 75 = .ok (.iconst 0, 1) := by decide +kernel
theorem dX5_lookAt_76 : decode cX5_lookAt 76 = .ok (.goto 14, 3) := by decide +kernel
theorem dX5_lookAt_79 : decode cX5_lookAt 79 = .ok (.iload 4, 2) := by decide +kernel
theorem dX5_lookAt_81 : decode cX5_lookAt 81 = .ok (.aload_n 1, 1) := by decide +kernel
theorem dX5_lookAt_82 : decode cX5_lookAt 82 = .ok (.iload_n 3, 1) := by decide +kernel
theorem dX5_lookAt_83 : decode cX5_lookAt 83 = .ok (.iconst 1, 1) := by decide +kernel
theorem dX5_lookAt_84 : decode cX5_lookAt 84 = .ok (.isub, 1) := by decide +kernel
theorem dX5_lookAt_85 : decode cX5_lookAt 85 = .ok (.iaload, 1) := by decide +kernel
theorem dX5_lookAt_86 : decode cX5_lookAt 86 = .ok (.isub, 1) := by decide +kernel
theorem dX5_lookAt_87 : decode cX5_lookAt 87 = .ok (.invokestatic 62, 3) := by decide +kernel
theorem dX5_lookAt_90 : decode cX5_lookAt 90 = .ok (.iadd, 1) := by decide +kernel
theorem dX5_lookAt_91 : decode cX5_lookAt 91 = .ok (.iastore, 1) := by decide +kernel
theorem dX5_lookAt_92 : decode cX5_lookAt 92 = .ok (.aload_n 0, 1) := by decide +kernel
theorem dX5_lookAt_93 : decode cX5_lookAt 93 = .ok (.getfield 48, 3) := by decide +kernel
theorem dX5_lookAt_96 : decode cX5_lookAt 96 = .ok (.iconst 2, 1) := by decide +kernel
theorem dX5_lookAt_97 : decode cX5_lookAt 97 = .ok (.aload_n 0, 1) := by decide +kernel
theorem dX5_lookAt_98 : decode cX5_lookAt 98 = .ok (.getfield 48, 3) := by decide +kernel
theorem dX5_lookAt_101 : decode cX5_lookAt 101 = .ok (.iconst 2, 1) := by decide +kernel
theorem dX5_lookAt_102 : decode cX5_lookAt 102 = .ok (.iaload, 1) := by decide +kernel
theorem dX5_lookAt_103 : decode cX5_lookAt 103 = .ok (.iload 4, 2) := by decide +kernel
theorem dX5_lookAt_105 : decode cX5_lookAt 105 = .ok (.invokestatic 68, 3) := by decide +kernel
theorem dX5_lookAt_108 : decode cX5_lookAt 108 = .ok (.iastore, 1) := by decide +kernel
theorem dX5_lookAt_109 : decode cX5_lookAt 109 = .ok (.aload_n 0, 1) := by decide +kernel
theorem dX5_lookAt_110 : decode cX5_lookAt 110 = .ok (.getfield 48, 3) := by decide +kernel
theorem dX5_lookAt_113 : decode cX5_lookAt 113 = .ok (.iconst 3, 1) := by decide +kernel
theorem dX5_lookAt_114 : decode cX5_lookAt 114 = .ok (.aload_n 0, 1) := by decide +kernel
theorem dX5_lookAt_115 : decode cX5_lookAt 115 = .ok (.getfield 48, 3) := by decide +kernel
theorem dX5_lookAt_118 : decode cX5_lookAt 118 = .ok (.iconst 3, 1) := by decide +kernel
theorem dX5_lookAt_119 : decode cX5_lookAt 119 = .ok (.iaload, 1) := by decide +kernel
theorem dX5_lookAt_120 : decode cX5_lookAt 120 = .ok (.iload 4, 2) := by decide +kernel
theorem dX5_lookAt_122 : decode cX5_lookAt 122 = .ok (.invokestatic 71, 3) := by decide +kernel
theorem dX5_lookAt_125 : decode cX5_lookAt 125 = .ok (.iastore, 1) := by decide +kernel
theorem dX5_lookAt_126 : decode cX5_lookAt 126 = .ok (.aload_n 0, 1) := by decide +kernel
theorem dX5_lookAt_127 : decode cX5_lookAt 127 = .ok (.getfield 48, 3) := by decide +kernel
theorem dX5_lookAt_130 : decode cX5_lookAt 130 = .ok (.iconst 4, 1) := by decide +kernel
theorem dX5_lookAt_131 : decode cX5_lookAt 131 = .ok (.iload_n 3, 1) := by decide +kernel
theorem dX5_lookAt_132 : decode cX5_lookAt 132 = .ok (.iadd, 1) := by decide +kernel
theorem dX5_lookAt_133 : decode cX5_lookAt 133 = .ok (.iload 4, 2) := by decide +kernel
theorem dX5_lookAt_135 : decode cX5_lookAt 135 = .ok (.iastore, 1) := by decide +kernel
theorem dX5_lookAt_136 : decode cX5_lookAt 136 = .ok (.iinc 3 1, 3) := by decide +kernel
theorem dX5_lookAt_139 : decode cX5_lookAt 139 = .ok (.goto (-108), 3) := by decide +kernel
theorem dX5_lookAt_142 : decode cX5_lookAt 142 = .ok (.return_, 1) := by decide +kernel
theorem dX5_result_0 : decode cX5_result 0 = .ok (.iconst 0, 1) := by decide +kernel
theorem dX5_result_1 : decode cX5_result 1 = .ok (.istore_n 3, 1) := by decide +kernel
theorem dX5_result_2 : decode cX5_result 2 = .ok (.iconst 0, 1) := by decide +kernel
theorem dX5_result_3 : decode cX5_result 3 = .ok (.iload_n 1, 1) := by decide +kernel
theorem dX5_result_4 : decode cX5_result 4 = .ok (.invokestatic 68, 3) := by decide +kernel
theorem dX5_result_7 : decode cX5_result 7 = .ok (.istore 4, 2) := by decide +kernel
theorem dX5_result_9 : decode cX5_result 9 = .ok (.iload 4, 2) := by decide +kernel
theorem dX5_result_11 : decode cX5_result 11 = .ok (.iload_n 2, 1) := by decide +kernel
theorem dX5_result_12 : decode cX5_result 12 = .ok (.if_icmp .ge 154, 3) := by decide +kernel
theorem dX5_result_15 : decode cX5_result 15 = .ok (.iload 4, 2) := by decide +kernel
theorem dX5_result_17 : decode cX5_result 17 = .ok (.sipush 800, 3) := by decide +kernel
theorem dX5_result_20 : decode cX5_result 20 = .ok (.if_icmp .ge 146, 3) := by decide +kernel
theorem dX5_result_23 : decode cX5_result 23 = .ok (.aload_n 0, 1) := by decide +kernel
theorem dX5_result_24 : decode cX5_result 24 = .ok (.getfield 42, 3) := by decide +kernel
theorem dX5_result_27 : decode cX5_result 27 = .ok (.iload 4, 2) := by decide +kernel
theorem dX5_result_29 : decode cX5_result 29 = .ok (.iaload, 1) := by decide +kernel
theorem dX5_result_30 : decode cX5_result 30 = .ok (.istore 5, 2) := by decide +kernel
theorem dX5_result_32 : decode cX5_result 32 = .ok (.iload 5, 2) := by decide +kernel
theorem dX5_result_34 : decode cX5_result 34 = .ok (.ifCond .eq 9, 3) := by decide +kernel
theorem dX5_result_37 : decode cX5_result 37 = .ok (.iload 5, 2) := by decide +kernel
theorem dX5_result_39 : decode cX5_result 39 = .ok (.iconst 1, 1) := by decide +kernel
theorem dX5_result_40 : decode cX5_result 40 = .ok (.if_icmp .ne 47, 3) := by decide +kernel
theorem dX5_result_43 : decode cX5_result 43 = .ok (.iload_n 3, 1) := by decide +kernel
theorem dX5_result_44 : decode cX5_result 44 = .ok (.bipush 40, 2) := by decide +kernel
theorem dX5_result_46 : decode cX5_result 46 = .ok (.if_icmp .ge 114, 3) := by decide +kernel
theorem dX5_result_49 : decode cX5_result 49 = .ok (.aload_n 0, 1) := by decide +kernel
theorem dX5_result_50 : decode cX5_result 50 = .ok (.getfield 51, 3) := by decide +kernel
theorem dX5_result_53 : decode cX5_result 53 = .ok (.iload_n 3, 1) := by decide +kernel
theorem dX5_result_54 : decode cX5_result 54 = .ok (.iload 5, 2) := by decide +kernel
theorem dX5_result_56 : decode cX5_result 56 = .ok (.ifCond .ne 13, 3) := by decide +kernel
theorem dX5_result_59 : decode cX5_result 59 = .ok (.aload_n 0, 1) := by decide +kernel
theorem dX5_result_60 : decode cX5_result 60 = .ok (.getfield 45, 3) := by decide +kernel
theorem dX5_result_63 : decode cX5_result 63 = .ok (.iload 4, 2) := by decide +kernel
theorem dX5_result_65 : decode cX5_result 65 = .ok (.iaload, 1) := by decide +kernel
theorem dX5_result_66 : decode cX5_result 66 = .ok (.goto 14, 3) := by decide +kernel
theorem dX5_result_69 : decode cX5_result 69 = .ok (.aload_n 0, 1) := by decide +kernel
theorem dX5_result_70 : decode cX5_result 70 = .ok (.aload_n 0, 1) := by decide +kernel
theorem dX5_result_71 : decode cX5_result 71 = .ok (.getfield 45, 3) := by decide +kernel
theorem dX5_result_74 : decode cX5_result 74 = .ok (.iload 4, 2) := by decide +kernel
theorem dX5_result_76 : decode cX5_result 76 = .ok (.iaload, 1) := by decide +kernel
theorem dX5_result_77 : decode cX5_result 77 = .ok (.invokevirtual 74, 3) := by decide +kernel
theorem dX5_result_80 : decode cX5_result 80 = .ok (.iastore, 1) := by decide +kernel
theorem dX5_result_81 : decode cX5_result 81 = .ok (.iinc 3 1, 3) := by decide +kernel
theorem dX5_result_84 : decode cX5_result 84 = .ok (.goto 76, 3) := by decide +kernel
theorem dX5_result_87 : decode cX5_result 87 = .ok (.iload 5, 2) := by decide +kernel
theorem dX5_result_89 : decode cX5_result 89 = .ok (.iconst 2, 1) := by decide +kernel
theorem dX5_result_90 : decode cX5_result 90 = .ok (.if_icmp .ne 35, 3) := by decide +kernel
theorem dX5_result_93 : decode cX5_result 93 = .ok (.iload_n 3, 1) := by decide +kernel
theorem dX5_result_94 : decode cX5_result 94 = .ok (.iconst 1, 1) := by decide +kernel
theorem dX5_result_95 : decode cX5_result 95 = .ok (.if_icmp .lt 65, 3) := by decide +kernel
theorem dX5_result_98 : decode cX5_result 98 = .ok (.aload_n 0, 1) := by decide +kernel
theorem dX5_result_99 : decode cX5_result 99 = .ok (.getfield 51, 3) := by decide +kernel
theorem dX5_result_102 : decode cX5_result 102 = .ok (.iload_n 3, 1) := by decide +kernel
theorem dX5_result_103 : decode cX5_result 103 = .ok (.iconst 1, 1) := by decide +kernel
theorem dX5_result_104 : decode cX5_result 104 = .ok (.isub, 1) := by decide +kernel
theorem dX5_result_105 : decode cX5_result 105 = .ok (.aload_n 0, 1) := by decide +kernel
theorem dX5_result_106 : decode cX5_result 106 = .ok (.getfield 51, 3) := by decide +kernel
theorem dX5_result_109 : decode cX5_result 109 = .ok (.iload_n 3, 1) := by decide +kernel
theorem dX5_result_110 : decode cX5_result 110 = .ok (.iconst 1, 1) := by decide +kernel
theorem dX5_result_111 : decode cX5_result 111 = .ok (.isub, 1) := by decide +kernel
theorem dX5_result_112 : decode cX5_result 112 = .ok (.iaload, 1) := by decide +kernel
theorem dX5_result_113 : decode cX5_result 113 = .ok (.ifCond .ne 7, 3) := by decide +kernel
theorem dX5_result_116 : decode cX5_result 116 = .ok (.iconst 1, 1) := by decide +kernel
theorem dX5_result_117 : decode cX5_result 117 = .ok (.goto 4, 3) := by decide +kernel
theorem dX5_result_120 : decode cX5_result 120 = .ok (.iconst 0, 1) := by decide +kernel
theorem dX5_result_121 : decode cX5_result 121 = .ok (.iastore, 1) := by decide +kernel
theorem dX5_result_122 : decode cX5_result 122 = .ok (.goto 38, 3) := by decide +kernel
theorem dX5_result_125 : decode cX5_result 125 = .ok (.iload_n 3, 1) := by decide +kernel
theorem dX5_result_126 : decode cX5_result 126 = .ok (.iconst 2, 1) := by decide +kernel
theorem dX5_result_127 : decode cX5_result 127 = .ok (.if_icmp .lt 33, 3) := by decide +kernel
theorem dX5_result_130 : decode cX5_result 130 = .ok (.iinc 3 (-1), 3) := by decide +kernel
theorem dX5_result_133 : decode cX5_result 133 = .ok (.aload_n 0, 1) := by decide +kernel
theorem dX5_result_134 : decode cX5_result 134 = .ok (.getfield 51, 3) := by decide +kernel
theorem dX5_result_137 : decode cX5_result 137 = .ok (.iload_n 3, 1) := by decide +kernel
theorem dX5_result_138 : decode cX5_result 138 = .ok (.iconst 1, 1) := by decide +kernel
theorem dX5_result_139 : decode cX5_result 139 = .ok (.isub, 1) := by decide +kernel
theorem dX5_result_140 : decode cX5_result 140 = .ok (.iload 5, 2) := by decide +kernel
theorem dX5_result_142 : decode cX5_result 142 = .ok (.aload_n 0, 1) := by decide +kernel
theorem dX5_result_143 : decode cX5_result 143 = .ok (.getfield 51, 3) := by decide +kernel
theorem dX5_result_146 : decode cX5_result 146 = .ok (.iload_n 3, 1) := by decide +kernel
theorem dX5_result_147 : decode cX5_result 147 = .ok (.iconst 1, 1) := by decide +kernel
theorem dX5_result_148 : decode cX5_result 148 = .ok (.isub, 1) := by decide +kernel
theorem dX5_result_149 : decode cX5_result 149 = .ok (.iaload, 1) := by decide +kernel
theorem dX5_result_150 : decode cX5_result 150 = .ok (.aload_n 0, 1) := by decide +kernel
theorem dX5_result_151 : decode cX5_result 151 = .ok (.getfield 51, 3) := by decide +kernel
theorem dX5_result_154 : decode cX5_result 154 = .ok (.iload_n 3, 1) := by decide +kernel
theorem dX5_result_155 : decode cX5_result 155 = .ok (.iaload, 1) := by decide +kernel
theorem dX5_result_156 : decode cX5_result 156 = .ok (.invokestatic 77, 3) := by decide +kernel
theorem dX5_result_159 : decode cX5_result 159 = .ok (.iastore, 1) := by decide +kernel
theorem dX5_result_160 : decode cX5_result 160 = .ok (.iinc 4 1, 3) := by decide +kernel
theorem dX5_result_163 : decode cX5_result 163 = .ok (.goto (-154), 3) := by decide +kernel
theorem dX5_result_166 : decode cX5_result 166 = .ok (.iload_n 3, 1) := by decide +kernel
theorem dX5_result_167 : decode cX5_result 167 = .ok (.iconst 1, 1) := by decide +kernel
theorem dX5_result_168 : decode cX5_result 168 = .ok (.if_icmp .lt 14, 3) := by decide +kernel
theorem dX5_result_171 : decode cX5_result 171 = .ok (.aload_n 0, 1) := by decide +kernel
theorem dX5_result_172 : decode cX5_result 172 = .ok (.getfield 51, 3) := by decide +kernel
theorem dX5_result_175 : decode cX5_result 175 = .ok (.iload_n 3, 1) := by decide +kernel
theorem dX5_result_176 : decode cX5_result 176 = .ok (.iconst 1, 1) := by decide +kernel
theorem dX5_result_177 : decode cX5_result 177 = .ok (.isub, 1) := by decide +kernel
theorem dX5_result_178 : decode cX5_result 178 = .ok (.iaload, 1) := by decide +kernel
theorem dX5_result_179 : decode cX5_result 179 = .ok (.goto 4, 3) := by decide +kernel
theorem dX5_result_182 : decode cX5_result 182 = .ok (.iconst 0, 1) := by decide +kernel
theorem dX5_result_183 : decode cX5_result 183 = .ok (.ireturn, 1) := by decide +kernel
theorem dX5_valueAt_0 : decode cX5_valueAt 0 = .ok (.iload_n 1, 1) := by decide +kernel
theorem dX5_valueAt_1 : decode cX5_valueAt 1 = .ok (.ifCond .lt 21, 3) := by decide +kernel
theorem dX5_valueAt_4 : decode cX5_valueAt 4 = .ok (.iload_n 1, 1) := by decide +kernel
theorem dX5_valueAt_5 : decode cX5_valueAt 5 = .ok (.aload_n 0, 1) := by decide +kernel
theorem dX5_valueAt_6 : decode cX5_valueAt 6 = .ok (.getfield 48, 3) := by decide +kernel
theorem dX5_valueAt_9 : decode cX5_valueAt 9 = .ok (.arraylength, 1) := by decide +kernel
theorem dX5_valueAt_10 : decode cX5_valueAt 10 = .ok (.if_icmp .ge 12, 3) := by decide +kernel
theorem dX5_valueAt_13 : decode cX5_valueAt 13 = .ok (.aload_n 0, 1) := by decide +kernel
theorem dX5_valueAt_14 : decode cX5_valueAt 14 = .ok (.getfield 48, 3) := by decide +kernel
theorem dX5_valueAt_17 : decode cX5_valueAt 17 = .ok (.iload_n 1, 1) := by decide +kernel
theorem dX5_valueAt_18 : decode cX5_valueAt 18 = .ok (.iaload, 1) := by decide +kernel
theorem dX5_valueAt_19 : decode cX5_valueAt 19 = .ok (.goto 4, 3) := by decide +kernel
theorem dX5_valueAt_22 : decode cX5_valueAt 22 = .ok (.iconst 0, 1) := by decide +kernel
theorem dX5_valueAt_23 : decode cX5_valueAt 23 = .ok (.ireturn, 1) := by decide +kernel
theorem dX5_joined_0 : decode cX5_joined 0 = .ok (.iload_n 0, 1) := by decide +kernel
theorem dX5_joined_1 : decode cX5_joined 1 = .ok (.tableswitch 102 3 9 #[43, 47, 51, 55, 66, 77, 88], 43) := by decide +kernel
theorem dX5_joined_44 : decode cX5_joined 44 = .ok (.iload_n 1, 1) := by decide +kernel
theorem dX5_joined_45 : decode cX5_joined 45 = .ok (.iload_n 2, 1) := by decide +kernel
theorem dX5_joined_46 : decode cX5_joined 46 = .ok (.imul, 1) := by decide +kernel
theorem dX5_joined_47 : decode cX5_joined 47 = .ok (.ireturn, 1) := by decide +kernel
theorem dX5_joined_48 : decode cX5_joined 48 = .ok (.iload_n 1, 1) := by decide +kernel
theorem dX5_joined_49 : decode cX5_joined 49 = .ok (.iload_n 2, 1) := by decide +kernel
theorem dX5_joined_50 : decode cX5_joined 50 = .ok (.iadd, 1) := by decide +kernel
theorem dX5_joined_51 : decode cX5_joined 51 = .ok (.ireturn, 1) := by decide +kernel
theorem dX5_joined_52 : decode cX5_joined 52 = .ok (.iload_n 1, 1) := by decide +kernel
theorem dX5_joined_53 : decode cX5_joined 53 = .ok (.iload_n 2, 1) := by decide +kernel
theorem dX5_joined_54 : decode cX5_joined 54 = .ok (.isub, 1) := by decide +kernel
theorem dX5_joined_55 : decode cX5_joined 55 = .ok (.ireturn, 1) := by decide +kernel
theorem dX5_joined_56 : decode cX5_joined 56 = .ok (.iload_n 1, 1) := by decide +kernel
theorem dX5_joined_57 : decode cX5_joined 57 = .ok (.iload_n 2, 1) := by decide +kernel
theorem dX5_joined_58 : decode cX5_joined 58 = .ok (.if_icmp .ge 7, 3) := by decide +kernel
theorem dX5_joined_61 : decode cX5_joined 61 = .ok (.iconst 1, 1) := by decide +kernel
theorem dX5_joined_62 : decode cX5_joined 62 = .ok (.goto 4, 3) := by decide +kernel
theorem dX5_joined_65 : decode cX5_joined 65 = .ok (.iconst 0, 1) := by decide +kernel
theorem dX5_joined_66 : decode cX5_joined 66 = .ok (.ireturn, 1) := by decide +kernel
theorem dX5_joined_67 : decode cX5_joined 67 = .ok (.iload_n 1, 1) := by decide +kernel
theorem dX5_joined_68 : decode cX5_joined 68 = .ok (.iload_n 2, 1) := by decide +kernel
theorem dX5_joined_69 : decode cX5_joined 69 = .ok (.if_icmp .le 7, 3) := by decide +kernel
theorem dX5_joined_72 : decode cX5_joined 72 = .ok (.iconst 1, 1) := by decide +kernel
theorem dX5_joined_73 : decode cX5_joined 73 = .ok (.goto 4, 3) := by decide +kernel
theorem dX5_joined_76 : decode cX5_joined 76 = .ok (.iconst 0, 1) := by decide +kernel
theorem dX5_joined_77 : decode cX5_joined 77 = .ok (.ireturn, 1) := by decide +kernel
theorem dX5_joined_78 : decode cX5_joined 78 = .ok (.iload_n 1, 1) := by decide +kernel
theorem dX5_joined_79 : decode cX5_joined 79 = .ok (.iload_n 2, 1) := by decide +kernel
theorem dX5_joined_80 : decode cX5_joined 80 = .ok (.if_icmp .ne 7, 3) := by decide +kernel
theorem dX5_joined_83 : decode cX5_joined 83 = .ok (.iconst 1, 1) := by decide +kernel
theorem dX5_joined_84 : decode cX5_joined 84 = .ok (.goto 4, 3) := by decide +kernel
theorem dX5_joined_87 : decode cX5_joined 87 = .ok (.iconst 0, 1) := by decide +kernel
theorem dX5_joined_88 : decode cX5_joined 88 = .ok (.ireturn, 1) := by decide +kernel
theorem dX5_joined_89 : decode cX5_joined 89 = .ok (.iload_n 1, 1) := by decide +kernel
theorem dX5_joined_90 : decode cX5_joined 90 = .ok (.ifCond .eq 11, 3) := by decide +kernel
theorem dX5_joined_93 : decode cX5_joined 93 = .ok (.iload_n 2, 1) := by decide +kernel
theorem dX5_joined_94 : decode cX5_joined 94 = .ok (.ifCond .eq 7, 3) := by decide +kernel
theorem dX5_joined_97 : decode cX5_joined 97 = .ok (.iconst 1, 1) := by decide +kernel
theorem dX5_joined_98 : decode cX5_joined 98 = .ok (.goto 4, 3) := by decide +kernel
theorem dX5_joined_101 : decode cX5_joined 101 = .ok (.iconst 0, 1) := by decide +kernel
theorem dX5_joined_102 : decode cX5_joined 102 = .ok (.ireturn, 1) := by decide +kernel
theorem dX5_joined_103 : decode cX5_joined 103 = .ok (.iload_n 1, 1) := by decide +kernel
theorem dX5_joined_104 : decode cX5_joined 104 = .ok (.ifCond .ne 7, 3) := by decide +kernel
theorem dX5_joined_107 : decode cX5_joined 107 = .ok (.iload_n 2, 1) := by decide +kernel
theorem dX5_joined_108 : decode cX5_joined 108 = .ok (.ifCond .eq 7, 3) := by decide +kernel
theorem dX5_joined_111 : decode cX5_joined 111 = .ok (.iconst 1, 1) := by decide +kernel
theorem dX5_joined_112 : decode cX5_joined 112 = .ok (.goto 4, 3) := by decide +kernel
theorem dX5_joined_115 : decode cX5_joined 115 = .ok (.iconst 0, 1) := by decide +kernel
theorem dX5_joined_116 : decode cX5_joined 116 = .ok (.ireturn, 1) := by decide +kernel
theorem dX6_init_0 : decode cX6_init 0 = .ok (.aload_n 0, 1) := by decide +kernel
theorem dX6_init_1 : decode cX6_init 1 = .ok (.invokespecial 3, 3) := by decide +kernel
theorem dX6_init_4 : decode cX6_init 4 = .ok (.aload_n 0, 1) := by decide +kernel
theorem dX6_init_5 : decode cX6_init 5 = .ok (.iconst 0, 1) := by decide +kernel
theorem dX6_init_6 : decode cX6_init 6 = .ok (.putfield 9, 3) := by decide +kernel
theorem dX6_init_9 : decode cX6_init 9 = .ok (.aload_n 0, 1) := by decide +kernel
theorem dX6_init_10 : decode cX6_init 10 = .ok (.aload_n 1, 1) := by decide +kernel
theorem dX6_init_11 : decode cX6_init 11 = .ok (.putfield 15, 3) := by decide +kernel
theorem dX6_init_14 : decode cX6_init 14 = .ok (.aload_n 0, 1) := by decide +kernel
theorem dX6_init_15 : decode cX6_init 15 = .ok (.aload_n 2, 1) := by decide +kernel
theorem dX6_init_16 : decode cX6_init 16 = .ok (.putfield 19, 3) := by decide +kernel
theorem dX6_init_19 : decode cX6_init 19 = .ok (.aload_n 0, 1) := by decide +kernel
theorem dX6_init_20 : decode cX6_init 20 = .ok (.iload_n 3, 1) := by decide +kernel
theorem dX6_init_21 : decode cX6_init 21 = .ok (.putfield 23, 3) := by decide +kernel
theorem dX6_init_24 : decode cX6_init 24 = .ok (.return_, 1) := by decide +kernel
theorem dX6_read_0 : decode cX6_read 0 = .ok (.aload_n 0, 1) := by decide +kernel
theorem dX6_read_1 : decode cX6_read 1 = .ok (.getfield 19, 3) := by decide +kernel
theorem dX6_read_4 : decode cX6_read 4 = .ok (.invokevirtual 27, 3) := by decide +kernel
theorem dX6_read_7 : decode cX6_read 7 = .ok (.iconst 0, 1) := by decide +kernel
theorem dX6_read_8 : decode cX6_read 8 = .ok (.istore_n 1, 1) := by decide +kernel
theorem dX6_read_9 : decode cX6_read 9 = .ok (.iload_n 1, 1) := by decide +kernel
theorem dX6_read_10 : decode cX6_read 10 = .ok (.sipush 800, 3) := by decide +kernel
theorem dX6_read_13 : decode cX6_read 13 = .ok (.if_icmp .ge 30, 3) := by decide +kernel
theorem dX6_read_16 : decode cX6_read 16 = .ok (.aload_n 0, 1) := by decide +kernel
theorem dX6_read_17 : decode cX6_read 17 = .ok (.getfield 15, 3) := by decide +kernel
theorem dX6_read_20 : decode cX6_read 20 = .ok (.getfield 32, 3) := by decide +kernel
theorem dX6_read_23 : decode cX6_read 23 = .ok (.bipush 26, 2) := by decide +kernel
theorem dX6_read_25 : decode cX6_read 25 = .ok (.if_icmp .eq 18, 3) := by decide +kernel
theorem dX6_read_28 : decode cX6_read 28 = .ok (.aload_n 0, 1) := by decide +kernel
theorem dX6_read_29 : decode cX6_read 29 = .ok (.invokevirtual 37, 3) := by decide +kernel
theorem dX6_read_32 : decode cX6_read 32 = .ok (.ifCond .ne 5, 3) := by decide +kernel
theorem dX6_read_35 : decode cX6_read 35 = .ok (.iconst 0, 1) := by decide +kernel
theorem dX6_read_36 : decode cX6_read 36 = .ok (.ireturn, 1) := by decide +kernel
theorem dX6_read_37 : decode cX6_read 37 = .ok (.iinc 1 1, 3) := by decide +kernel
theorem dX6_read_40 : decode cX6_read 40 = .ok (.goto (-31), 3) := by decide +kernel
theorem dX6_read_43 : decode cX6_read 43 = .ok (.iconst 1, 1) := by decide +kernel
theorem dX6_read_44 : decode cX6_read 44 = .ok (.ireturn, 1) := by decide +kernel
theorem dX6_readLine_0 : decode cX6_readLine 0 = .ok (.aload_n 0, 1) := by decide +kernel
theorem dX6_readLine_1 : decode cX6_readLine 1 = .ok (.getfield 15, 3) := by decide +kernel
theorem dX6_readLine_4 : decode cX6_readLine 4 = .ok (.getfield 32, 3) := by decide +kernel
theorem dX6_readLine_7 : decode cX6_readLine 7 = .ok (.lookupswitch 35 #[(10, 25), (11, 30)], 25) := by decide +kernel
theorem dX6_readLine_32 : decode cX6_readLine 32 = .ok (.aload_n 0, 1) := by decide +kernel
theorem dX6_readLine_33 : decode cX6_readLine 33 = .ok (.invokevirtual 41, 3) := by decide +kernel
theorem dX6_readLine_36 : decode cX6_readLine 36 = .ok (.ireturn, 1) := by decide +kernel
theorem dX6_readLine_37 : decode cX6_readLine 37 = .ok (.aload_n 0, 1) := by decide +kernel
theorem dX6_readLine_38 : decode cX6_readLine 38 = .ok (.invokevirtual 44, 3) := by decide +kernel
theorem dX6_readLine_41 : decode cX6_readLine 41 = .ok (.ireturn, 1) := by decide +kernel
theorem dX6_readLine_42 : decode cX6_readLine 42 = .ok (.aload_n 0, 1) := by decide +kernel
theorem dX6_readLine_43 : decode cX6_readLine 43 = .ok (.getfield 15, 3) := by decide +kernel
theorem dX6_readLine_46 : decode cX6_readLine 46 = .ok (.iconst 2, 1) := by decide +kernel
theorem dX6_readLine_47 : decode cX6_readLine 47 = .ok (.invokevirtual 47, 3) := by decide +kernel
theorem dX6_readLine_50 : decode cX6_readLine 50 = .ok (.ireturn, 1) := by decide +kernel
theorem dX6_readBar_0 : decode cX6_readBar 0 = .ok (.aload_n 0, 1) := by decide +kernel
theorem dX6_readBar_1 : decode cX6_readBar 1 = .ok (.getfield 19, 3) := by decide +kernel
theorem dX6_readBar_4 : decode cX6_readBar 4 = .ok (.getfield 51, 3) := by decide +kernel
theorem dX6_readBar_7 : decode cX6_readBar 7 = .ok (.ifCond .eq 12, 3) := by decide +kernel
theorem dX6_readBar_10 : decode cX6_readBar 10 = .ok (.aload_n 0, 1) := by decide +kernel
theorem dX6_readBar_11 : decode cX6_readBar 11 = .ok (.getfield 15, 3) := by decide +kernel
theorem dX6_readBar_14 : decode cX6_readBar 14 = .ok (.iconst 2, 1) := by decide +kernel
theorem dX6_readBar_15 : decode cX6_readBar 15 = .ok (.invokevirtual 47, 3) := by decide +kernel
theorem dX6_readBar_18 : decode cX6_readBar 18 = .ok (.ireturn, 1) := by decide +kernel
theorem dX6_readBar_19 : decode cX6_readBar 19 = .ok (.aload_n 0, 1) := by decide +kernel
theorem dX6_readBar_20 : decode cX6_readBar 20 = .ok (.getfield 15, 3) := by decide +kernel
theorem dX6_readBar_23 : decode cX6_readBar 23 = .ok (.invokevirtual 54, 3) := by decide +kernel
theorem dX6_readBar_26 : decode cX6_readBar 26 = .ok (.aload_n 0, 1) := by decide +kernel
theorem dX6_readBar_27 : decode cX6_readBar 27 = .ok (.iconst 1, 1) := by decide +kernel
theorem dX6_readBar_28 : decode cX6_readBar 28 = .ok (.putfield 9, 3) := by decide +kernel
theorem dX6_readBar_31 : decode cX6_readBar 31 = .ok (.aload_n 0, 1) := by decide +kernel
theorem dX6_readBar_32 : decode cX6_readBar 32 = .ok (.getfield 19, 3) := by decide +kernel
theorem dX6_readBar_35 : decode cX6_readBar 35 = .ok (.invokevirtual 57, 3) := by decide +kernel
theorem dX6_readBar_38 : decode cX6_readBar 38 = .ok (.istore_n 1, 1) := by decide +kernel
theorem dX6_readBar_39 : decode cX6_readBar 39 = .ok (.aload_n 0, 1) := by decide +kernel
theorem dX6_readBar_40 : decode cX6_readBar 40 = .ok (.iconst 0, 1) := by decide +kernel
theorem dX6_readBar_41 : decode cX6_readBar 41 = .ok (.invokevirtual 61, 3) := by decide +kernel
theorem dX6_readBar_44 : decode cX6_readBar 44 = .ok (.ifCond .eq 15, 3) := by decide +kernel
theorem dX6_readBar_47 : decode cX6_readBar 47 = .ok (.aload_n 0, 1) := by decide +kernel
theorem dX6_readBar_48 : decode cX6_readBar 48 = .ok (.getfield 15, 3) := by decide +kernel
theorem dX6_readBar_51 : decode cX6_readBar 51 = .ok (.bipush 59, 2) := by decide +kernel
theorem dX6_readBar_53 : decode cX6_readBar 53 = .ok (.invokevirtual 64, 3) := by decide +kernel
theorem dX6_readBar_56 : decode cX6_readBar 56 = .ok (.ifCond .ne 5, 3) := by decide +kernel
theorem dX6_readBar_59 : decode cX6_readBar 59 = .ok (.iconst 0, 1) := by decide +kernel
theorem dX6_readBar_60 : decode cX6_readBar 60 = .ok (.ireturn, 1) := by decide +kernel
theorem dX6_readBar_61 : decode cX6_readBar 61 = .ok (.aload_n 0, 1) := by decide +kernel
theorem dX6_readBar_62 : decode cX6_readBar 62 = .ok (.getfield 19, 3) := by decide +kernel
theorem dX6_readBar_65 : decode cX6_readBar 65 = .ok (.iload_n 1, 1) := by decide +kernel
theorem dX6_readBar_66 : decode cX6_readBar 66 = .ok (.invokevirtual 67, 3) := by decide +kernel
theorem dX6_readBar_69 : decode cX6_readBar 69 = .ok (.iconst 1, 1) := by decide +kernel
theorem dX6_readBar_70 : decode cX6_readBar 70 = .ok (.ireturn, 1) := by decide +kernel
theorem dX6_readSign_0 : decode cX6_readSign 0 = .ok (.aload_n 0, 1) := by decide +kernel
theorem dX6_readSign_1 : decode cX6_readSign 1 = .ok (.getfield 19, 3) := by decide +kernel
theorem dX6_readSign_4 : decode cX6_readSign 4 = .ok (.getfield 71, 3) := by decide +kernel
theorem dX6_readSign_7 : decode cX6_readSign 7 = .ok (.bipush 6, 2) := by decide +kernel
theorem dX6_readSign_9 : decode cX6_readSign 9 = .ok (.if_icmp .lt 12, 3) := by decide +kernel
theorem dX6_readSign_12 : decode cX6_readSign 12 = .ok (.aload_n 0, 1) := by decide +kernel
theorem dX6_readSign_13 : decode cX6_readSign 13 = .ok (.getfield 15, 3) := by decide +kernel
theorem dX6_readSign_16 : decode cX6_readSign 16 = .ok (.iconst 2, 1) := by decide +kernel
theorem dX6_readSign_17 : decode cX6_readSign 17 = .ok (.invokevirtual 47, 3) := by decide +kernel
theorem dX6_readSign_20 : decode cX6_readSign 20 = .ok (.ireturn, 1) := by decide +kernel
theorem dX6_readSign_21 : decode cX6_readSign 21 = .ok (.aload_n 0, 1) := by decide +kernel
theorem dX6_readSign_22 : decode cX6_readSign 22 = .ok (.getfield 15, 3) := by decide +kernel
theorem dX6_readSign_25 : decode cX6_readSign 25 = .ok (.invokevirtual 54, 3) := by decide +kernel
theorem dX6_readSign_28 : decode cX6_readSign 28 = .ok (.aload_n 0, 1) := by decide +kernel
theorem dX6_readSign_29 : decode cX6_readSign 29 = .ok (.getfield 15, 3) := by decide +kernel
theorem dX6_readSign_32 : decode cX6_readSign 32 = .ok (.getfield 32, 3) := by decide +kernel
theorem dX6_readSign_35 : decode cX6_readSign 35 = .ok (.bipush 24, 2) := by decide +kernel
theorem dX6_readSign_37 : decode cX6_readSign 37 = .ok (.if_icmp .eq 12, 3) := by decide +kernel
theorem dX6_readSign_40 : decode cX6_readSign 40 = .ok (.aload_n 0, 1) := by decide +kernel
theorem dX6_readSign_41 : decode cX6_readSign 41 = .ok (.getfield 15, 3) := by decide +kernel
theorem dX6_readSign_44 : decode cX6_readSign 44 = .ok (.iconst 2, 1) := by decide +kernel
theorem dX6_readSign_45 : decode cX6_readSign 45 = .ok (.invokevirtual 47, 3) := by decide +kernel
theorem dX6_readSign_48 : decode cX6_readSign 48 = .ok (.ireturn, 1) := by decide +kernel
theorem dX6_readSign_49 : decode cX6_readSign 49 = .ok (.aload_n 0, 1) := by decide +kernel
theorem dX6_readSign_50 : decode cX6_readSign 50 = .ok (.getfield 15, 3) := by decide +kernel
theorem dX6_readSign_53 : decode cX6_readSign 53 = .ok (.getfield 74, 3) := by decide +kernel
theorem dX6_readSign_56 : decode cX6_readSign 56 = .ok (.lstore_n 1, 1) := by decide +kernel
theorem dX6_readSign_57 : decode cX6_readSign 57 = .ok (.aload_n 0, 1) := by decide +kernel
theorem dX6_readSign_58 : decode cX6_readSign 58 = .ok (.getfield 19, 3) := by decide +kernel
theorem dX6_readSign_61 : decode cX6_readSign 61 = .ok (.lload_n 1, 1) := by decide +kernel
theorem dX6_readSign_62 : decode cX6_readSign 62 = .ok (.invokevirtual 78, 3) := by decide +kernel
theorem dX6_readSign_65 : decode cX6_readSign 65 = .ok (.ifCond .eq 12, 3) := by decide +kernel
theorem dX6_readSign_68 : decode cX6_readSign 68 = .ok (.aload_n 0, 1) := by decide +kernel
theorem dX6_readSign_69 : decode cX6_readSign 69 = .ok (.getfield 15, 3) := by decide +kernel
theorem dX6_readSign_72 : decode cX6_readSign 72 = .ok (.iconst 3, 1) := by decide +kernel
theorem dX6_readSign_73 : decode cX6_readSign 73 = .ok (.invokevirtual 47, 3) := by decide +kernel
theorem dX6_readSign_76 : decode cX6_readSign 76 = .ok (.ireturn, 1) := by decide +kernel
theorem dX6_readSign_77 : decode cX6_readSign 77 = .ok (.aload_n 0, 1) := by decide +kernel
theorem dX6_readSign_78 : decode cX6_readSign 78 = .ok (.getfield 15, 3) := by decide +kernel
theorem dX6_readSign_81 : decode cX6_readSign 81 = .ok (.invokevirtual 54, 3) := by decide +kernel
theorem dX6_readSign_84 : decode cX6_readSign 84 = .ok (.aload_n 0, 1) := by decide +kernel
theorem dX6_readSign_85 : decode cX6_readSign 85 = .ok (.iconst 0, 1) := by decide +kernel
theorem dX6_readSign_86 : decode cX6_readSign 86 = .ok (.putfield 9, 3) := by decide +kernel
theorem dX6_readSign_89 : decode cX6_readSign 89 = .ok (.aload_n 0, 1) := by decide +kernel
theorem dX6_readSign_90 : decode cX6_readSign 90 = .ok (.getfield 19, 3) := by decide +kernel
theorem dX6_readSign_93 : decode cX6_readSign 93 = .ok (.invokevirtual 57, 3) := by decide +kernel
theorem dX6_readSign_96 : decode cX6_readSign 96 = .ok (.istore_n 3, 1) := by decide +kernel
theorem dX6_readSign_97 : decode cX6_readSign 97 = .ok (.aload_n 0, 1) := by decide +kernel
theorem dX6_readSign_98 : decode cX6_readSign 98 = .ok (.getfield 15, 3) := by decide +kernel
theorem dX6_readSign_101 : decode cX6_readSign 101 = .ok (.bipush 12, 2) := by decide +kernel
theorem dX6_readSign_103 : decode cX6_readSign 103 = .ok (.invokevirtual 64, 3) := by decide +kernel
theorem dX6_readSign_106 : decode cX6_readSign 106 = .ok (.ifCond .eq 23, 3) := by decide +kernel
theorem dX6_readSign_109 : decode cX6_readSign 109 = .ok (.aload_n 0, 1) := by decide +kernel
theorem dX6_readSign_110 : decode cX6_readSign 110 = .ok (.iconst 0, 1) := by decide +kernel
theorem dX6_readSign_111 : decode cX6_readSign 111 = .ok (.invokevirtual 61, 3) := by decide +kernel
theorem dX6_readSign_114 : decode cX6_readSign 114 = .ok (.ifCond .eq 15, 3) := by decide +kernel
theorem dX6_readSign_117 : decode cX6_readSign 117 = .ok (.aload_n 0, 1) := by decide +kernel
theorem dX6_readSign_118 : decode cX6_readSign 118 = .ok (.getfield 15, 3) := by decide +kernel
theorem dX6_readSign_121 : decode cX6_readSign 121 = .ok (.bipush 59, 2) := by decide +kernel
theorem dX6_readSign_123 : decode cX6_readSign 123 = .ok (.invokevirtual 64, 3) := by decide +kernel
theorem dX6_readSign_126 : decode cX6_readSign 126 = .ok (.ifCond .ne 5, 3) := by decide +kernel
theorem dX6_readSign_129 : decode cX6_readSign 129 = .ok (.iconst 0, 1) := by decide +kernel
theorem dX6_readSign_130 : decode cX6_readSign 130 = .ok (.ireturn, 1) := by decide +kernel
theorem dX6_readSign_131 : decode cX6_readSign 131 = .ok (.aload_n 0, 1) := by decide +kernel
theorem dX6_readSign_132 : decode cX6_readSign 132 = .ok (.getfield 19, 3) := by decide +kernel
theorem dX6_readSign_135 : decode cX6_readSign 135 = .ok (.lload_n 1, 1) := by decide +kernel
theorem dX6_readSign_136 : decode cX6_readSign 136 = .ok (.iload_n 3, 1) := by decide +kernel
theorem dX6_readSign_137 : decode cX6_readSign 137 = .ok (.invokevirtual 82, 3) := by decide +kernel
theorem dX6_readSign_140 : decode cX6_readSign 140 = .ok (.iconst 1, 1) := by decide +kernel
theorem dX6_readSign_141 : decode cX6_readSign 141 = .ok (.ireturn, 1) := by decide +kernel
theorem dX6_readE_0 : decode cX6_readE 0 = .ok (.aload_n 0, 1) := by decide +kernel
theorem dX6_readE_1 : decode cX6_readE 1 = .ok (.iload_n 1, 1) := by decide +kernel
theorem dX6_readE_2 : decode cX6_readE 2 = .ok (.invokevirtual 86, 3) := by decide +kernel
theorem dX6_readE_5 : decode cX6_readE 5 = .ok (.ifCond .ne 5, 3) := by decide +kernel
theorem dX6_readE_8 : decode cX6_readE 8 = .ok (.iconst 0, 1) := by decide +kernel
theorem dX6_readE_9 : decode cX6_readE 9 = .ok (.ireturn, 1) := by decide +kernel
theorem dX6_readE_10 : decode cX6_readE 10 = .ok (.iconst 0, 1) := by decide +kernel
theorem dX6_readE_11 : decode cX6_readE 11 = .ok (.istore_n 2, 1) := by decide +kernel
theorem dX6_readE_12 : decode cX6_readE 12 = .ok (.iload_n 2, 1) := by decide +kernel
theorem dX6_readE_13 : decode cX6_readE 13 = .ok (.bipush 40, 2) := by decide +kernel
theorem dX6_readE_15 : decode cX6_readE 15 = .ok (.if_icmp .ge 48, 3) := by decide +kernel
theorem dX6_readE_18 : decode cX6_readE 18 = .ok (.aload_n 0, 1) := by decide +kernel
theorem dX6_readE_19 : decode cX6_readE 19 = .ok (.getfield 15, 3) := by decide +kernel
theorem dX6_readE_22 : decode cX6_readE 22 = .ok (.getfield 32, 3) := by decide +kernel
theorem dX6_readE_25 : decode cX6_readE 25 = .ok (.bipush 22, 2) := by decide +kernel
theorem dX6_readE_27 : decode cX6_readE 27 = .ok (.if_icmp .ne 36, 3) := by decide +kernel
theorem dX6_readE_30 : decode cX6_readE 30 = .ok (.aload_n 0, 1) := by decide +kernel
theorem dX6_readE_31 : decode cX6_readE 31 = .ok (.getfield 15, 3) := by decide +kernel
theorem dX6_readE_34 : decode cX6_readE 34 = .ok (.invokevirtual 54, 3) := by decide +kernel
theorem dX6_readE_37 : decode cX6_readE 37 = .ok (.aload_n 0, 1) := by decide +kernel
theorem dX6_readE_38 : decode cX6_readE 38 = .ok (.iload_n 1, 1) := by decide +kernel
theorem dX6_readE_39 : decode cX6_readE 39 = .ok (.invokevirtual 86, 3) := by decide +kernel
theorem dX6_readE_42 : decode cX6_readE 42 = .ok (.ifCond .ne 5, 3) := by decide +kernel
theorem dX6_readE_45 : decode cX6_readE 45 = .ok (.iconst 0, 1) := by decide +kernel
theorem dX6_readE_46 : decode cX6_readE 46 = .ok (.ireturn, 1) := by decide +kernel
theorem dX6_readE_47 : decode cX6_readE 47 = .ok (.aload_n 0, 1) := by decide +kernel
theorem dX6_readE_48 : decode cX6_readE 48 = .ok (.getfield 19, 3) := by decide +kernel
theorem dX6_readE_51 : decode cX6_readE 51 = .ok (.bipush 10, 2) := by decide +kernel
theorem dX6_readE_53 : decode cX6_readE 53 = .ok (.iconst 0, 1) := by decide +kernel
theorem dX6_readE_54 : decode cX6_readE 54 = .ok (.invokevirtual 89, 3) := by decide +kernel
theorem dX6_readE_57 : decode cX6_readE 57 = .ok (.iinc 2 1, 3) := by decide +kernel
theorem dX6_readE_60 : decode cX6_readE 60 = .ok (.goto (-48), 3) := by decide +kernel
theorem dX6_readE_63 : decode cX6_readE 63 = .ok (.iconst 1, 1) := by decide +kernel
theorem dX6_readE_64 : decode cX6_readE 64 = .ok (.ireturn, 1) := by decide +kernel
theorem dX6_readBoth_0 : decode cX6_readBoth 0 = .ok (.aload_n 0, 1) := by decide +kernel
theorem dX6_readBoth_1 : decode cX6_readBoth 1 = .ok (.iload_n 1, 1) := by decide +kernel
theorem dX6_readBoth_2 : decode cX6_readBoth 2 = .ok (.invokevirtual 93, 3) := by decide +kernel
theorem dX6_readBoth_5 : decode cX6_readBoth 5 = .ok (.ifCond .ne 5, 3) := by decide +kernel
theorem dX6_readBoth_8 : decode cX6_readBoth 8 = .ok (.iconst 0, 1) := by decide +kernel
theorem dX6_readBoth_9 : decode cX6_readBoth 9 = .ok (.ireturn, 1) := by decide +kernel
theorem dX6_readBoth_10 : decode cX6_readBoth 10 = .ok (.iconst 0, 1) := by decide +kernel
theorem dX6_readBoth_11 : decode cX6_readBoth 11 = .ok (.istore_n 2, 1) := by decide +kernel
theorem dX6_readBoth_12 : decode cX6_readBoth 12 = .ok (.iload_n 2, 1) := by decide +kernel
theorem dX6_readBoth_13 : decode cX6_readBoth 13 = .ok (.bipush 40, 2) := by decide +kernel
theorem dX6_readBoth_15 : decode cX6_readBoth 15 = .ok (.if_icmp .ge 48, 3) := by decide +kernel
theorem dX6_readBoth_18 : decode cX6_readBoth 18 = .ok (.aload_n 0, 1) := by decide +kernel
theorem dX6_readBoth_19 : decode cX6_readBoth 19 = .ok (.getfield 15, 3) := by decide +kernel
theorem dX6_readBoth_22 : decode cX6_readBoth 22 = .ok (.getfield 32, 3) := by decide +kernel
theorem dX6_readBoth_25 : decode cX6_readBoth 25 = .ok (.bipush 21, 2) := by decide +kernel
theorem dX6_readBoth_27 : decode cX6_readBoth 27 = .ok (.if_icmp .ne 36, 3) := by decide +kernel
theorem dX6_readBoth_30 : decode cX6_readBoth 30 = .ok (.aload_n 0, 1) := by decide +kernel
theorem dX6_readBoth_31 : decode cX6_readBoth 31 = .ok (.getfield 15, 3) := by decide +kernel
theorem dX6_readBoth_34 : decode cX6_readBoth 34 = .ok (.invokevirtual 54, 3) := by decide +kernel
theorem dX6_readBoth_37 : decode cX6_readBoth 37 = .ok (.aload_n 0, 1) := by decide +kernel
theorem dX6_readBoth_38 : decode cX6_readBoth 38 = .ok (.iload_n 1, 1) := by decide +kernel
theorem dX6_readBoth_39 : decode cX6_readBoth 39 = .ok (.invokevirtual 93, 3) := by decide +kernel
theorem dX6_readBoth_42 : decode cX6_readBoth 42 = .ok (.ifCond .ne 5, 3) := by decide +kernel
theorem dX6_readBoth_45 : decode cX6_readBoth 45 = .ok (.iconst 0, 1) := by decide +kernel
theorem dX6_readBoth_46 : decode cX6_readBoth 46 = .ok (.ireturn, 1) := by decide +kernel
theorem dX6_readBoth_47 : decode cX6_readBoth 47 = .ok (.aload_n 0, 1) := by decide +kernel
theorem dX6_readBoth_48 : decode cX6_readBoth 48 = .ok (.getfield 19, 3) := by decide +kernel
theorem dX6_readBoth_51 : decode cX6_readBoth 51 = .ok (.bipush 9, 2) := by decide +kernel
theorem dX6_readBoth_53 : decode cX6_readBoth 53 = .ok (.iconst 0, 1) := by decide +kernel
theorem dX6_readBoth_54 : decode cX6_readBoth 54 = .ok (.invokevirtual 89, 3) := by decide +kernel
theorem dX6_readBoth_57 : decode cX6_readBoth 57 = .ok (.iinc 2 1, 3) := by decide +kernel
theorem dX6_readBoth_60 : decode cX6_readBoth 60 = .ok (.goto (-48), 3) := by decide +kernel
theorem dX6_readBoth_63 : decode cX6_readBoth 63 = .ok (.iconst 1, 1) := by decide +kernel
theorem dX6_readBoth_64 : decode cX6_readBoth 64 = .ok (.ireturn, 1) := by decide +kernel
theorem dX6_readOne_0 : decode cX6_readOne 0 = .ok (.aload_n 0, 1) := by decide +kernel
theorem dX6_readOne_1 : decode cX6_readOne 1 = .ok (.getfield 15, 3) := by decide +kernel
theorem dX6_readOne_4 : decode cX6_readOne 4 = .ok (.getfield 32, 3) := by decide +kernel
theorem dX6_readOne_7 : decode cX6_readOne 7 = .ok (.bipush 23, 2) := by decide +kernel
theorem dX6_readOne_9 : decode cX6_readOne 9 = .ok (.if_icmp .eq 9, 3) := by decide +kernel
theorem dX6_readOne_12 : decode cX6_readOne 12 = .ok (.aload_n 0, 1) := by decide +kernel
theorem dX6_readOne_13 : decode cX6_readOne 13 = .ok (.iload_n 1, 1) := by decide +kernel
theorem dX6_readOne_14 : decode cX6_readOne 14 = .ok (.invokevirtual 96, 3) := by decide +kernel
theorem dX6_readOne_17 : decode cX6_readOne 17 = .ok (.ireturn, 1) := by decide +kernel
theorem dX6_readOne_18 : decode cX6_readOne 18 = .ok (.iload_n 1, 1) := by decide +kernel
theorem dX6_readOne_19 : decode cX6_readOne 19 = .ok (.bipush 6, 2) := by decide +kernel
theorem dX6_readOne_21 : decode cX6_readOne 21 = .ok (.if_icmp .le 12, 3) := by decide +kernel
theorem dX6_readOne_24 : decode cX6_readOne 24 = .ok (.aload_n 0, 1) := by decide +kernel
theorem dX6_readOne_25 : decode cX6_readOne 25 = .ok (.getfield 15, 3) := by decide +kernel
theorem dX6_readOne_28 : decode cX6_readOne 28 = .ok (.iconst 2, 1) := by decide +kernel
theorem dX6_readOne_29 : decode cX6_readOne 29 = .ok (.invokevirtual 47, 3) := by decide +kernel
theorem dX6_readOne_32 : decode cX6_readOne 32 = .ok (.ireturn, 1) := by decide +kernel
theorem dX6_readOne_33 : decode cX6_readOne 33 = .ok (.aload_n 0, 1) := by decide +kernel
theorem dX6_readOne_34 : decode cX6_readOne 34 = .ok (.getfield 15, 3) := by decide +kernel
theorem dX6_readOne_37 : decode cX6_readOne 37 = .ok (.invokevirtual 54, 3) := by decide +kernel
theorem dX6_readOne_40 : decode cX6_readOne 40 = .ok (.aload_n 0, 1) := by decide +kernel
theorem dX6_readOne_41 : decode cX6_readOne 41 = .ok (.iload_n 1, 1) := by decide +kernel
theorem dX6_readOne_42 : decode cX6_readOne 42 = .ok (.iconst 1, 1) := by decide +kernel
theorem dX6_readOne_43 : decode cX6_readOne 43 = .ok (.iadd, 1) := by decide +kernel
theorem dX6_readOne_44 : decode cX6_readOne 44 = .ok (.invokevirtual 93, 3) := by decide +kernel
theorem dX6_readOne_47 : decode cX6_readOne 47 = .ok (.ifCond .ne 5, 3) := by decide +kernel
theorem dX6_readOne_50 : decode cX6_readOne 50 = .ok (.iconst 0, 1) := by decide +kernel
theorem dX6_readOne_51 : decode cX6_readOne 51 = .ok (.ireturn, 1) := by decide +kernel
theorem dX6_readOne_52 : decode cX6_readOne 52 = .ok (.aload_n 0, 1) := by decide +kernel
theorem dX6_readOne_53 : decode cX6_readOne 53 = .ok (.getfield 19, 3) := by decide +kernel
theorem dX6_readOne_56 : decode cX6_readOne 56 = .ok (.iconst 2, 1) := by decide +kernel
theorem dX6_readOne_57 : decode cX6_readOne 57 = .ok (.iconst 0, 1) := by decide +kernel
theorem dX6_readOne_58 : decode cX6_readOne 58 = .ok (.invokevirtual 89, 3) := by decide +kernel
theorem dX6_readOne_61 : decode cX6_readOne 61 = .ok (.iconst 1, 1) := by decide +kernel
theorem dX6_readOne_62 : decode cX6_readOne 62 = .ok (.ireturn, 1) := by decide +kernel
theorem dX6_readRelation_0 : decode cX6_readRelation 0 = .ok (.aload_n 0, 1) := by decide +kernel
theorem dX6_readRelation_1 : decode cX6_readRelation 1 = .ok (.iload_n 1, 1) := by decide +kernel
theorem dX6_readRelation_2 : decode cX6_readRelation 2 = .ok (.invokevirtual 99, 3) := by decide +kernel
theorem dX6_readRelation_5 : decode cX6_readRelation 5 = .ok (.ifCond .ne 5, 3) := by decide +kernel
theorem dX6_readRelation_8 : decode cX6_readRelation 8 = .ok (.iconst 0, 1) := by decide +kernel
theorem dX6_readRelation_9 : decode cX6_readRelation 9 = .ok (.ireturn, 1) := by decide +kernel
theorem dX6_readRelation_10 : decode cX6_readRelation 10 = .ok (.aload_n 0, 1) := by decide +kernel
theorem dX6_readRelation_11 : decode cX6_readRelation 11 = .ok (.invokevirtual 102, 3) := by decide +kernel
theorem dX6_readRelation_14 : decode cX6_readRelation 14 = .ok (.istore_n 2, 1) := by decide +kernel
theorem dX6_readRelation_15 : decode cX6_readRelation 15 = .ok (.iload_n 2, 1) := by decide +kernel
theorem dX6_readRelation_16 : decode cX6_readRelation 16 = .ok (.iconst (-1), 1) := by decide +kernel
theorem dX6_readRelation_17 : decode cX6_readRelation 17 = .ok (.if_icmp .ne 5, 3) := by decide +kernel
theorem dX6_readRelation_20 : decode cX6_readRelation 20 = .ok (.iconst 1, 1) := by decide +kernel
theorem dX6_readRelation_21 : decode cX6_readRelation 21 = .ok (.ireturn, 1) := by decide +kernel
theorem dX6_readRelation_22 : decode cX6_readRelation 22 = .ok (.aload_n 0, 1) := by decide +kernel
theorem dX6_readRelation_23 : decode cX6_readRelation 23 = .ok (.getfield 15, 3) := by decide +kernel
theorem dX6_readRelation_26 : decode cX6_readRelation 26 = .ok (.invokevirtual 54, 3) := by decide +kernel
theorem dX6_readRelation_29 : decode cX6_readRelation 29 = .ok (.aload_n 0, 1) := by decide +kernel
theorem dX6_readRelation_30 : decode cX6_readRelation 30 = .ok (.iload_n 1, 1) := by decide +kernel
theorem dX6_readRelation_31 : decode cX6_readRelation 31 = .ok (.invokevirtual 99, 3) := by decide +kernel
theorem dX6_readRelation_34 : decode cX6_readRelation 34 = .ok (.ifCond .ne 5, 3) := by decide +kernel
theorem dX6_readRelation_37 : decode cX6_readRelation 37 = .ok (.iconst 0, 1) := by decide +kernel
theorem dX6_readRelation_38 : decode cX6_readRelation 38 = .ok (.ireturn, 1) := by decide +kernel
theorem dX6_readRelation_39 : decode cX6_readRelation 39 = .ok (.aload_n 0, 1) := by decide +kernel
theorem dX6_readRelation_40 : decode cX6_readRelation 40 = .ok (.getfield 19, 3) := by decide +kernel
theorem dX6_readRelation_43 : decode cX6_readRelation 43 = .ok (.iload_n 2, 1) := by decide +kernel
theorem dX6_readRelation_44 : decode cX6_readRelation 44 = .ok (.iconst 0, 1) := by decide +kernel
theorem dX6_readRelation_45 : decode cX6_readRelation 45 = .ok (.invokevirtual 89, 3) := by decide +kernel
theorem dX6_readRelation_48 : decode cX6_readRelation 48 = .ok (.iconst 1, 1) := by decide +kernel
theorem dX6_readRelation_49 : decode cX6_readRelation 49 = .ok (.ireturn, 1) := by decide +kernel
theorem dX6_relationHere_0 : decode cX6_relationHere 0 = .ok (.aload_n 0, 1) := by decide +kernel
theorem dX6_relationHere_1 : decode cX6_relationHere 1 = .ok (.getfield 15, 3) := by decide +kernel
theorem dX6_relationHere_4 : decode cX6_relationHere 4 = .ok (.getfield 32, 3) := by decide +kernel
theorem dX6_relationHere_7 : decode cX6_relationHere 7 = .ok (.tableswitch 34 60 62 #[25, 31, 28], 25) := by decide +kernel
theorem dX6_relationHere_32 : decode cX6_relationHere 32 = .ok (.bipush 6, 2) := by decide +kernel
theorem dX6_relationHere_34 : decode cX6_relationHere 34 = .ok (.ireturn, 1) := by decide +kernel
theorem dX6_relationHere_35 : decode cX6_relationHere 35 = .ok (.bipush 7, 2) := by decide +kernel
theorem dX6_relationHere_37 : decode cX6_relationHere 37 = .ok (.ireturn, 1) := by decide +kernel
theorem dX6_relationHere_38 : decode cX6_relationHere 38 = .ok (.bipush 8, 2) := by decide +kernel
theorem dX6_relationHere_40 : decode cX6_relationHere 40 = .ok (.ireturn, 1) := by decide +kernel
theorem dX6_relationHere_41 : decode cX6_relationHere 41 = .ok (.iconst (-1), 1) := by decide +kernel
theorem dX6_relationHere_42 : decode cX6_relationHere 42 = .ok (.ireturn, 1) := by decide +kernel
theorem dX6_readSum_0 : decode cX6_readSum 0 = .ok (.aload_n 0, 1) := by decide +kernel
theorem dX6_readSum_1 : decode cX6_readSum 1 = .ok (.iload_n 1, 1) := by decide +kernel
theorem dX6_readSum_2 : decode cX6_readSum 2 = .ok (.invokevirtual 105, 3) := by decide +kernel
theorem dX6_readSum_5 : decode cX6_readSum 5 = .ok (.ifCond .ne 5, 3) := by decide +kernel
theorem dX6_readSum_8 : decode cX6_readSum 8 = .ok (.iconst 0, 1) := by decide +kernel
theorem dX6_readSum_9 : decode cX6_readSum 9 = .ok (.ireturn, 1) := by decide +kernel
theorem dX6_readSum_10 : decode cX6_readSum 10 = .ok (.iconst 0, 1) := by decide +kernel
theorem dX6_readSum_11 : decode cX6_readSum 11 = .ok (.istore_n 2, 1) := by decide +kernel
theorem dX6_readSum_12 : decode cX6_readSum 12 = .ok (.iload_n 2, 1) := by decide +kernel
theorem dX6_readSum_13 : decode cX6_readSum 13 = .ok (.bipush 40, 2) := by decide +kernel
theorem dX6_readSum_15 : decode cX6_readSum 15 = .ok (.if_icmp .ge 77, 3) := by decide +kernel
theorem dX6_readSum_18 : decode cX6_readSum 18 = .ok (.aload_n 0, 1) := by decide +kernel
theorem dX6_readSum_19 : decode cX6_readSum 19 = .ok (.getfield 15, 3) := by decide +kernel
theorem dX6_readSum_22 : decode cX6_readSum 22 = .ok (.getfield 32, 3) := by decide +kernel
theorem dX6_readSum_25 : decode cX6_readSum 25 = .ok (.bipush 43, 2) := by decide +kernel
theorem dX6_readSum_27 : decode cX6_readSum 27 = .ok (.if_icmp .eq 15, 3) := by decide +kernel
theorem dX6_readSum_30 : decode cX6_readSum 30 = .ok (.aload_n 0, 1) := by decide +kernel
theorem dX6_readSum_31 : decode cX6_readSum 31 = .ok (.getfield 15, 3) := by decide +kernel
theorem dX6_readSum_34 : decode cX6_readSum 34 = .ok (.getfield 32, 3) := by decide +kernel
theorem dX6_readSum_37 : decode cX6_readSum 37 = .ok (.bipush 45, 2) := by decide +kernel
theorem dX6_readSum_39 : decode cX6_readSum 39 = .ok (.if_icmp .ne 53, 3) := by decide +kernel
theorem dX6_readSum_42 : decode cX6_readSum 42 = .ok (.aload_n 0, 1) := by decide +kernel
theorem dX6_readSum_43 : decode cX6_readSum 43 = .ok (.getfield 15, 3) := by decide +kernel
theorem dX6_readSum_46 : decode cX6_readSum 46 = .ok (.getfield 32, 3) := by decide +kernel
theorem dX6_readSum_49 : decode cX6_readSum 49 = .ok (.bipush 43, 2) := by decide +kernel
theorem dX6_readSum_51 : decode cX6_readSum 51 = .ok (.if_icmp .ne 7, 3) := by decide +kernel
theorem dX6_readSum_54 : decode cX6_readSum 54 = .ok (.iconst 4, 1) := by decide +kernel
theorem dX6_readSum_55 : decode cX6_readSum 55 = .ok (.goto 4, 3) := by decide +kernel
theorem dX6_readSum_58 : decode cX6_readSum 58 = .ok (.iconst 5, 1) := by decide +kernel
theorem dX6_readSum_59 : decode cX6_readSum 59 = .ok (.istore_n 3, 1) := by decide +kernel
theorem dX6_readSum_60 : decode cX6_readSum 60 = .ok (.aload_n 0, 1) := by decide +kernel
theorem dX6_readSum_61 : decode cX6_readSum 61 = .ok (.getfield 15, 3) := by decide +kernel
theorem dX6_readSum_64 : decode cX6_readSum 64 = .ok (.invokevirtual 54, 3) := by decide +kernel
theorem dX6_readSum_67 : decode cX6_readSum 67 = .ok (.aload_n 0, 1) := by decide +kernel
theorem dX6_readSum_68 : decode cX6_readSum 68 = .ok (.iload_n 1, 1) := by decide +kernel
theorem dX6_readSum_69 : decode cX6_readSum 69 = .ok (.invokevirtual 105, 3) := by decide +kernel
theorem dX6_readSum_72 : decode cX6_readSum 72 = .ok (.ifCond .ne 5, 3) := by decide +kernel
theorem dX6_readSum_75 : decode cX6_readSum 75 = .ok (.iconst 0, 1) := by decide +kernel
theorem dX6_readSum_76 : decode cX6_readSum 76 = .ok (.ireturn, 1) := by decide +kernel
theorem dX6_readSum_77 : decode cX6_readSum 77 = .ok (.aload_n 0, 1) := by decide +kernel
theorem dX6_readSum_78 : decode cX6_readSum 78 = .ok (.getfield 19, 3) := by decide +kernel
theorem dX6_readSum_81 : decode cX6_readSum 81 = .ok (.iload_n 3, 1) := by decide +kernel
theorem dX6_readSum_82 : decode cX6_readSum 82 = .ok (.iconst 0, 1) := by decide +kernel
theorem dX6_readSum_83 : decode cX6_readSum 83 = .ok (.invokevirtual 89, 3) := by decide +kernel
theorem dX6_readSum_86 : decode cX6_readSum 86 = .ok (.iinc 2 1, 3) := by decide +kernel
theorem dX6_readSum_89 : decode cX6_readSum 89 = .ok (.goto (-77), 3) := by decide +kernel
theorem dX6_readSum_92 : decode cX6_readSum 92 = .ok (.iconst 1, 1) := by decide +kernel
theorem dX6_readSum_93 : decode cX6_readSum 93 = .ok (.ireturn, 1) := by decide +kernel
theorem dX6_readTerm_0 : decode cX6_readTerm 0 = .ok (.aload_n 0, 1) := by decide +kernel
theorem dX6_readTerm_1 : decode cX6_readTerm 1 = .ok (.iload_n 1, 1) := by decide +kernel
theorem dX6_readTerm_2 : decode cX6_readTerm 2 = .ok (.invokevirtual 108, 3) := by decide +kernel
theorem dX6_readTerm_5 : decode cX6_readTerm 5 = .ok (.ifCond .ne 5, 3) := by decide +kernel
theorem dX6_readTerm_8 : decode cX6_readTerm 8 = .ok (.iconst 0, 1) := by decide +kernel
theorem dX6_readTerm_9 : decode cX6_readTerm 9 = .ok (.ireturn, 1) := by decide +kernel
theorem dX6_readTerm_10 : decode cX6_readTerm 10 = .ok (.iconst 0, 1) := by decide +kernel
theorem dX6_readTerm_11 : decode cX6_readTerm 11 = .ok (.istore_n 2, 1) := by decide +kernel
theorem dX6_readTerm_12 : decode cX6_readTerm 12 = .ok (.iload_n 2, 1) := by decide +kernel
theorem dX6_readTerm_13 : decode cX6_readTerm 13 = .ok (.bipush 40, 2) := by decide +kernel
theorem dX6_readTerm_15 : decode cX6_readTerm 15 = .ok (.if_icmp .ge 47, 3) := by decide +kernel
theorem dX6_readTerm_18 : decode cX6_readTerm 18 = .ok (.aload_n 0, 1) := by decide +kernel
theorem dX6_readTerm_19 : decode cX6_readTerm 19 = .ok (.getfield 15, 3) := by decide +kernel
theorem dX6_readTerm_22 : decode cX6_readTerm 22 = .ok (.getfield 32, 3) := by decide +kernel
theorem dX6_readTerm_25 : decode cX6_readTerm 25 = .ok (.bipush 42, 2) := by decide +kernel
theorem dX6_readTerm_27 : decode cX6_readTerm 27 = .ok (.if_icmp .ne 35, 3) := by decide +kernel
theorem dX6_readTerm_30 : decode cX6_readTerm 30 = .ok (.aload_n 0, 1) := by decide +kernel
theorem dX6_readTerm_31 : decode cX6_readTerm 31 = .ok (.getfield 15, 3) := by decide +kernel
theorem dX6_readTerm_34 : decode cX6_readTerm 34 = .ok (.invokevirtual 54, 3) := by decide +kernel
theorem dX6_readTerm_37 : decode cX6_readTerm 37 = .ok (.aload_n 0, 1) := by decide +kernel
theorem dX6_readTerm_38 : decode cX6_readTerm 38 = .ok (.iload_n 1, 1) := by decide +kernel
theorem dX6_readTerm_39 : decode cX6_readTerm 39 = .ok (.invokevirtual 108, 3) := by decide +kernel
theorem dX6_readTerm_42 : decode cX6_readTerm 42 = .ok (.ifCond .ne 5, 3) := by decide +kernel
theorem dX6_readTerm_45 : decode cX6_readTerm 45 = .ok (.iconst 0, 1) := by decide +kernel
theorem dX6_readTerm_46 : decode cX6_readTerm 46 = .ok (.ireturn, 1) := by decide +kernel
theorem dX6_readTerm_47 : decode cX6_readTerm 47 = .ok (.aload_n 0, 1) := by decide +kernel
theorem dX6_readTerm_48 : decode cX6_readTerm 48 = .ok (.getfield 19, 3) := by decide +kernel
theorem dX6_readTerm_51 : decode cX6_readTerm 51 = .ok (.iconst 3, 1) := by decide +kernel
theorem dX6_readTerm_52 : decode cX6_readTerm 52 = .ok (.iconst 0, 1) := by decide +kernel
theorem dX6_readTerm_53 : decode cX6_readTerm 53 = .ok (.invokevirtual 89, 3) := by decide +kernel
theorem dX6_readTerm_56 : decode cX6_readTerm 56 = .ok (.iinc 2 1, 3) := by decide +kernel
theorem dX6_readTerm_59 : decode cX6_readTerm 59 = .ok (.goto (-47), 3) := by decide +kernel
theorem dX6_readTerm_62 : decode cX6_readTerm 62 = .ok (.iconst 1, 1) := by decide +kernel
theorem dX6_readTerm_63 : decode cX6_readTerm 63 = .ok (.ireturn, 1) := by decide +kernel
theorem dX6_readUnit_0 : decode cX6_readUnit 0 = .ok (.aload_n 0, 1) := by decide +kernel
theorem dX6_readUnit_1 : decode cX6_readUnit 1 = .ok (.getfield 19, 3) := by decide +kernel
theorem dX6_readUnit_4 : decode cX6_readUnit 4 = .ok (.getfield 111, 3) := by decide +kernel
theorem dX6_readUnit_7 : decode cX6_readUnit 7 = .ok (.bipush 40, 2) := by decide +kernel
theorem dX6_readUnit_9 : decode cX6_readUnit 9 = .ok (.if_icmp .lt 12, 3) := by decide +kernel
theorem dX6_readUnit_12 : decode cX6_readUnit 12 = .ok (.aload_n 0, 1) := by decide +kernel
theorem dX6_readUnit_13 : decode cX6_readUnit 13 = .ok (.getfield 15, 3) := by decide +kernel
theorem dX6_readUnit_16 : decode cX6_readUnit 16 = .ok (.iconst 2, 1) := by decide +kernel
theorem dX6_readUnit_17 : decode cX6_readUnit 17 = .ok (.invokevirtual 47, 3) := by decide +kernel
theorem dX6_readUnit_20 : decode cX6_readUnit 20 = .ok (.ireturn, 1) := by decide +kernel
theorem dX6_readUnit_21 : decode cX6_readUnit 21 = .ok (.aload_n 0, 1) := by decide +kernel
theorem dX6_readUnit_22 : decode cX6_readUnit 22 = .ok (.getfield 19, 3) := by decide +kernel
theorem dX6_readUnit_25 : decode cX6_readUnit 25 = .ok (.dup, 1) := by decide +kernel
theorem dX6_readUnit_26 : decode cX6_readUnit 26 = .ok (.getfield 111, 3) := by decide +kernel
theorem dX6_readUnit_29 : decode cX6_readUnit 29 = .ok (.iconst 1, 1) := by decide +kernel
theorem dX6_readUnit_30 : decode cX6_readUnit 30 = .ok (.iadd, 1) := by decide +kernel
theorem dX6_readUnit_31 : decode cX6_readUnit 31 = .ok (.putfield 111, 3) := by decide +kernel
theorem dX6_readUnit_34 : decode cX6_readUnit 34 = .ok (.aload_n 0, 1) := by decide +kernel
theorem dX6_readUnit_35 : decode cX6_readUnit 35 = .ok (.getfield 15, 3) := by decide +kernel
theorem dX6_readUnit_38 : decode cX6_readUnit 38 = .ok (.getfield 32, 3) := by decide +kernel
theorem dX6_readUnit_41 : decode cX6_readUnit 41 = .ok (.lookupswitch 70 #[(20, 41), (25, 46), (40, 35)], 35) := by decide +kernel
theorem dX6_readUnit_76 : decode cX6_readUnit 76 = .ok (.aload_n 0, 1) := by decide +kernel
theorem dX6_readUnit_77 : decode cX6_readUnit 77 = .ok (.iload_n 1, 1) := by decide +kernel
theorem dX6_readUnit_78 : decode cX6_readUnit 78 = .ok (.invokevirtual 114, 3) := by decide +kernel
theorem dX6_readUnit_81 : decode cX6_readUnit 81 = .ok (.ireturn, 1) := by decide +kernel
theorem dX6_readUnit_82 : decode cX6_readUnit 82 = .ok (.aload_n 0, 1) := by decide +kernel
theorem dX6_readUnit_83 : decode cX6_readUnit 83 = .ok (.invokevirtual 117, 3) := by decide +kernel
theorem dX6_readUnit_86 : decode cX6_readUnit 86 = .ok (.ireturn, 1) := by decide +kernel
theorem dX6_readUnit_87 : decode cX6_readUnit 87 = .ok (.aload_n 0, 1) := by decide +kernel
theorem dX6_readUnit_88 : decode cX6_readUnit 88 = .ok (.getfield 19, 3) := by decide +kernel
theorem dX6_readUnit_91 : decode cX6_readUnit 91 = .ok (.iconst 0, 1) := by decide +kernel
theorem dX6_readUnit_92 : decode cX6_readUnit 92 = .ok (.aload_n 0, 1) := by decide +kernel
theorem dX6_readUnit_93 : decode cX6_readUnit 93 = .ok (.getfield 15, 3) := by decide +kernel
theorem dX6_readUnit_96 : decode cX6_readUnit 96 = .ok (.getfield 120, 3) := by decide +kernel
theorem dX6_readUnit_99 : decode cX6_readUnit 99 = .ok (.invokevirtual 89, 3) := by decide +kernel
theorem dX6_readUnit_102 : decode cX6_readUnit 102 = .ok (.aload_n 0, 1) := by decide +kernel
theorem dX6_readUnit_103 : decode cX6_readUnit 103 = .ok (.getfield 15, 3) := by decide +kernel
theorem dX6_readUnit_106 : decode cX6_readUnit 106 = .ok (.invokevirtual 54, 3) := by decide +kernel
theorem dX6_readUnit_109 : decode cX6_readUnit 109 = .ok (.iconst 1, 1) := by decide +kernel
theorem dX6_readUnit_110 : decode cX6_readUnit 110 = .ok (.ireturn, 1) := by decide +kernel
theorem dX6_readUnit_111 : decode cX6_readUnit 111 = .ok (.aload_n 0, 1) := by decide +kernel
theorem dX6_readUnit_112 : decode cX6_readUnit 112 = .ok (.aload_n 0, 1) := by decide +kernel
theorem dX6_readUnit_113 : decode cX6_readUnit 113 = .ok (.getfield 9, 3) := by decide +kernel
theorem dX6_readUnit_116 : decode cX6_readUnit 116 = .ok (.ifCond .eq 10, 3) := by decide +kernel
theorem dX6_readUnit_119 : decode cX6_readUnit 119 = .ok (.aload_n 0, 1) := by decide +kernel
theorem dX6_readUnit_120 : decode cX6_readUnit 120 = .ok (.invokevirtual 123, 3) := by decide +kernel
theorem dX6_readUnit_123 : decode cX6_readUnit 123 = .ok (.goto 7, 3) := by decide +kernel
theorem dX6_readUnit_126 : decode cX6_readUnit 126 = .ok (.aload_n 0, 1) := by decide +kernel
theorem dX6_readUnit_127 : decode cX6_readUnit 127 = .ok (.invokevirtual 126, 3) := by decide +kernel
theorem dX6_readUnit_130 : decode cX6_readUnit 130 = .ok (.invokevirtual 129, 3) := by decide +kernel
theorem dX6_readUnit_133 : decode cX6_readUnit 133 = .ok (.ireturn, 1) := by decide +kernel
theorem dX6_readInner_0 : decode cX6_readInner 0 = .ok (.iload_n 1, 1) := by decide +kernel
theorem dX6_readInner_1 : decode cX6_readInner 1 = .ok (.bipush 6, 2) := by decide +kernel
theorem dX6_readInner_3 : decode cX6_readInner 3 = .ok (.if_icmp .le 12, 3) := by decide +kernel
theorem dX6_readInner_6 : decode cX6_readInner 6 = .ok (.aload_n 0, 1) := by decide +kernel
theorem dX6_readInner_7 : decode cX6_readInner 7 = .ok (.getfield 15, 3) := by decide +kernel
theorem dX6_readInner_10 : decode cX6_readInner 10 = .ok (.iconst 2, 1) := by decide +kernel
theorem dX6_readInner_11 : decode cX6_readInner 11 = .ok (.invokevirtual 47, 3) := by decide +kernel
theorem dX6_readInner_14 : decode cX6_readInner 14 = .ok (.ireturn, 1) := by decide +kernel
theorem dX6_readInner_15 : decode cX6_readInner 15 = .ok (.aload_n 0, 1) := by decide +kernel
theorem dX6_readInner_16 : decode cX6_readInner 16 = .ok (.getfield 15, 3) := by decide +kernel
theorem dX6_readInner_19 : decode cX6_readInner 19 = .ok (.invokevirtual 54, 3) := by decide +kernel
theorem dX6_readInner_22 : decode cX6_readInner 22 = .ok (.aload_n 0, 1) := by decide +kernel
theorem dX6_readInner_23 : decode cX6_readInner 23 = .ok (.iload_n 1, 1) := by decide +kernel
theorem dX6_readInner_24 : decode cX6_readInner 24 = .ok (.iconst 1, 1) := by decide +kernel
theorem dX6_readInner_25 : decode cX6_readInner 25 = .ok (.iadd, 1) := by decide +kernel
theorem dX6_readInner_26 : decode cX6_readInner 26 = .ok (.invokevirtual 61, 3) := by decide +kernel
theorem dX6_readInner_29 : decode cX6_readInner 29 = .ok (.ifCond .eq 19, 3) := by decide +kernel
theorem dX6_readInner_32 : decode cX6_readInner 32 = .ok (.aload_n 0, 1) := by decide +kernel
theorem dX6_readInner_33 : decode cX6_readInner 33 = .ok (.getfield 15, 3) := by decide +kernel
theorem dX6_readInner_36 : decode cX6_readInner 36 = .ok (.bipush 41, 2) := by decide +kernel
theorem dX6_readInner_38 : decode cX6_readInner 38 = .ok (.invokevirtual 64, 3) := by decide +kernel
theorem dX6_readInner_41 : decode cX6_readInner 41 = .ok (.ifCond .eq 7, 3) := by decide +kernel
theorem dX6_readInner_44 : decode cX6_readInner 44 = .ok (.iconst 1, 1) := by decide +kernel
theorem dX6_readInner_45 : decode cX6_readInner 45 = .ok (.goto 4, 3) := by decide +kernel
theorem dX6_readInner_48 : decode cX6_readInner 48 = .ok (.iconst 0, 1) := by decide +kernel
theorem dX6_readInner_49 : decode cX6_readInner 49 = .ok (.ireturn, 1) := by decide +kernel
theorem dX6_readAt_0 : decode cX6_readAt 0 = .ok (.aload_n 0, 1) := by decide +kernel
theorem dX6_readAt_1 : decode cX6_readAt 1 = .ok (.getfield 9, 3) := by decide +kernel
theorem dX6_readAt_4 : decode cX6_readAt 4 = .ok (.ifCond .eq 12, 3) := by decide +kernel
theorem dX6_readAt_7 : decode cX6_readAt 7 = .ok (.aload_n 0, 1) := by decide +kernel
theorem dX6_readAt_8 : decode cX6_readAt 8 = .ok (.getfield 15, 3) := by decide +kernel
theorem dX6_readAt_11 : decode cX6_readAt 11 = .ok (.iconst 2, 1) := by decide +kernel
theorem dX6_readAt_12 : decode cX6_readAt 12 = .ok (.invokevirtual 47, 3) := by decide +kernel
theorem dX6_readAt_15 : decode cX6_readAt 15 = .ok (.ireturn, 1) := by decide +kernel
theorem dX6_readAt_16 : decode cX6_readAt 16 = .ok (.aload_n 0, 1) := by decide +kernel
theorem dX6_readAt_17 : decode cX6_readAt 17 = .ok (.getfield 15, 3) := by decide +kernel
theorem dX6_readAt_20 : decode cX6_readAt 20 = .ok (.invokevirtual 54, 3) := by decide +kernel
theorem dX6_readAt_23 : decode cX6_readAt 23 = .ok (.aload_n 0, 1) := by decide +kernel
theorem dX6_readAt_24 : decode cX6_readAt 24 = .ok (.getfield 15, 3) := by decide +kernel
theorem dX6_readAt_27 : decode cX6_readAt 27 = .ok (.iconst 0, 1) := by decide +kernel
theorem dX6_readAt_28 : decode cX6_readAt 28 = .ok (.aload_n 0, 1) := by decide +kernel
theorem dX6_readAt_29 : decode cX6_readAt 29 = .ok (.getfield 23, 3) := by decide +kernel
theorem dX6_readAt_32 : decode cX6_readAt 32 = .ok (.iconst 1, 1) := by decide +kernel
theorem dX6_readAt_33 : decode cX6_readAt 33 = .ok (.isub, 1) := by decide +kernel
theorem dX6_readAt_34 : decode cX6_readAt 34 = .ok (.invokevirtual 132, 3) := by decide +kernel
theorem dX6_readAt_37 : decode cX6_readAt 37 = .ok (.ifCond .eq 23, 3) := by decide +kernel
theorem dX6_readAt_40 : decode cX6_readAt 40 = .ok (.aload_n 0, 1) := by decide +kernel
theorem dX6_readAt_41 : decode cX6_readAt 41 = .ok (.iconst 4, 1) := by decide +kernel
theorem dX6_readAt_42 : decode cX6_readAt 42 = .ok (.aload_n 0, 1) := by decide +kernel
theorem dX6_readAt_43 : decode cX6_readAt 43 = .ok (.getfield 15, 3) := by decide +kernel
theorem dX6_readAt_46 : decode cX6_readAt 46 = .ok (.getfield 120, 3) := by decide +kernel
theorem dX6_readAt_49 : decode cX6_readAt 49 = .ok (.iadd, 1) := by decide +kernel
theorem dX6_readAt_50 : decode cX6_readAt 50 = .ok (.invokevirtual 129, 3) := by decide +kernel
theorem dX6_readAt_53 : decode cX6_readAt 53 = .ok (.ifCond .eq 7, 3) := by decide +kernel
theorem dX6_readAt_56 : decode cX6_readAt 56 = .ok (.iconst 1, 1) := by decide +kernel
theorem dX6_readAt_57 : decode cX6_readAt 57 = .ok (.goto 4, 3) := by decide +kernel
theorem dX6_readAt_60 : decode cX6_readAt 60 = .ok (.iconst 0, 1) := by decide +kernel
theorem dX6_readAt_61 : decode cX6_readAt 61 = .ok (.ireturn, 1) := by decide +kernel
theorem dX6_readValue_0 : decode cX6_readValue 0 = .ok (.iload_n 1, 1) := by decide +kernel
theorem dX6_readValue_1 : decode cX6_readValue 1 = .ok (.iconst (-1), 1) := by decide +kernel
theorem dX6_readValue_2 : decode cX6_readValue 2 = .ok (.if_icmp .ne 12, 3) := by decide +kernel
theorem dX6_readValue_5 : decode cX6_readValue 5 = .ok (.aload_n 0, 1) := by decide +kernel
theorem dX6_readValue_6 : decode cX6_readValue 6 = .ok (.getfield 15, 3) := by decide +kernel
theorem dX6_readValue_9 : decode cX6_readValue 9 = .ok (.iconst 2, 1) := by decide +kernel
theorem dX6_readValue_10 : decode cX6_readValue 10 = .ok (.invokevirtual 47, 3) := by decide +kernel
theorem dX6_readValue_13 : decode cX6_readValue 13 = .ok (.ireturn, 1) := by decide +kernel
theorem dX6_readValue_14 : decode cX6_readValue 14 = .ok (.aload_n 0, 1) := by decide +kernel
theorem dX6_readValue_15 : decode cX6_readValue 15 = .ok (.getfield 19, 3) := by decide +kernel
theorem dX6_readValue_18 : decode cX6_readValue 18 = .ok (.iconst 1, 1) := by decide +kernel
theorem dX6_readValue_19 : decode cX6_readValue 19 = .ok (.iload_n 1, 1) := by decide +kernel
theorem dX6_readValue_20 : decode cX6_readValue 20 = .ok (.invokevirtual 89, 3) := by decide +kernel
theorem dX6_readValue_23 : decode cX6_readValue 23 = .ok (.aload_n 0, 1) := by decide +kernel
theorem dX6_readValue_24 : decode cX6_readValue 24 = .ok (.getfield 15, 3) := by decide +kernel
theorem dX6_readValue_27 : decode cX6_readValue 27 = .ok (.invokevirtual 54, 3) := by decide +kernel
theorem dX6_readValue_30 : decode cX6_readValue 30 = .ok (.iconst 1, 1) := by decide +kernel
theorem dX6_readValue_31 : decode cX6_readValue 31 = .ok (.ireturn, 1) := by decide +kernel
theorem dX6_barValueHere_0 : decode cX6_barValueHere 0 = .ok (.aload_n 0, 1) := by decide +kernel
theorem dX6_barValueHere_1 : decode cX6_barValueHere 1 = .ok (.getfield 15, 3) := by decide +kernel
theorem dX6_barValueHere_4 : decode cX6_barValueHere 4 = .ok (.getfield 32, 3) := by decide +kernel
theorem dX6_barValueHere_7 : decode cX6_barValueHere 7 = .ok (.lookupswitch 49 #[(2, 43), (13, 41), (14, 45), (15, 47)], 41) := by decide +kernel
theorem dX6_barValueHere_48 : decode cX6_barValueHere 48 = .ok (.iconst 0, 1) := by decide +kernel
theorem dX6_barValueHere_49 : decode cX6_barValueHere 49 = .ok (.ireturn, 1) := by decide +kernel
theorem dX6_barValueHere_50 : decode cX6_barValueHere 50 = .ok (.iconst 1, 1) := by decide +kernel
theorem dX6_barValueHere_51 : decode cX6_barValueHere 51 = .ok (.ireturn, 1) := by decide +kernel
theorem dX6_barValueHere_52 : decode cX6_barValueHere 52 = .ok (.iconst 2, 1) := by decide +kernel
theorem dX6_barValueHere_53 : decode cX6_barValueHere 53 = .ok (.ireturn, 1) := by decide +kernel
theorem dX6_barValueHere_54 : decode cX6_barValueHere 54 = .ok (.iconst 3, 1) := by decide +kernel
theorem dX6_barValueHere_55 : decode cX6_barValueHere 55 = .ok (.ireturn, 1) := by decide +kernel
theorem dX6_barValueHere_56 : decode cX6_barValueHere 56 = .ok (.iconst (-1), 1) := by decide +kernel
theorem dX6_barValueHere_57 : decode cX6_barValueHere 57 = .ok (.ireturn, 1) := by decide +kernel
theorem dX6_signValueHere_0 : decode cX6_signValueHere 0 = .ok (.aload_n 0, 1) := by decide +kernel
theorem dX6_signValueHere_1 : decode cX6_signValueHere 1 = .ok (.getfield 15, 3) := by decide +kernel
theorem dX6_signValueHere_4 : decode cX6_signValueHere 4 = .ok (.getfield 32, 3) := by decide +kernel
theorem dX6_signValueHere_7 : decode cX6_signValueHere 7 = .ok (.tableswitch 37 16 19 #[29, 31, 33, 35], 29) := by decide +kernel
theorem dX6_signValueHere_36 : decode cX6_signValueHere 36 = .ok (.iconst 0, 1) := by decide +kernel
theorem dX6_signValueHere_37 : decode cX6_signValueHere 37 = .ok (.ireturn, 1) := by decide +kernel
theorem dX6_signValueHere_38 : decode cX6_signValueHere 38 = .ok (.iconst 1, 1) := by decide +kernel
theorem dX6_signValueHere_39 : decode cX6_signValueHere 39 = .ok (.ireturn, 1) := by decide +kernel
theorem dX6_signValueHere_40 : decode cX6_signValueHere 40 = .ok (.iconst 2, 1) := by decide +kernel
theorem dX6_signValueHere_41 : decode cX6_signValueHere 41 = .ok (.ireturn, 1) := by decide +kernel
theorem dX6_signValueHere_42 : decode cX6_signValueHere 42 = .ok (.iconst 3, 1) := by decide +kernel
theorem dX6_signValueHere_43 : decode cX6_signValueHere 43 = .ok (.ireturn, 1) := by decide +kernel
theorem dX6_signValueHere_44 : decode cX6_signValueHere 44 = .ok (.iconst (-1), 1) := by decide +kernel
theorem dX6_signValueHere_45 : decode cX6_signValueHere 45 = .ok (.ireturn, 1) := by decide +kernel
theorem dX7_init_0 : decode cX7_init 0 = .ok (.aload_n 0, 1) := by decide +kernel
theorem dX7_init_1 : decode cX7_init 1 = .ok (.invokespecial 3, 3) := by decide +kernel
theorem dX7_init_4 : decode cX7_init 4 = .ok (.aload_n 0, 1) := by decide +kernel
theorem dX7_init_5 : decode cX7_init 5 = .ok (.bipush 8, 2) := by decide +kernel
theorem dX7_init_7 : decode cX7_init 7 = .ok (.newarray .int, 2) := by decide +kernel
theorem dX7_init_9 : decode cX7_init 9 = .ok (.putfield 9, 3) := by decide +kernel
theorem dX7_init_12 : decode cX7_init 12 = .ok (.aload_n 0, 1) := by decide +kernel
theorem dX7_init_13 : decode cX7_init 13 = .ok (.bipush 16, 2) := by decide +kernel
theorem dX7_init_15 : decode cX7_init 15 = .ok (.newarray .int, 2) := by decide +kernel
theorem dX7_init_17 : decode cX7_init 17 = .ok (.putfield 15, 3) := by decide +kernel
theorem dX7_init_20 : decode cX7_init 20 = .ok (.aload_n 0, 1) := by decide +kernel
theorem dX7_init_21 : decode cX7_init 21 = .ok (.bipush 16, 2) := by decide +kernel
theorem dX7_init_23 : decode cX7_init 23 = .ok (.newarray .int, 2) := by decide +kernel
theorem dX7_init_25 : decode cX7_init 25 = .ok (.putfield 18, 3) := by decide +kernel
theorem dX7_init_28 : decode cX7_init 28 = .ok (.aload_n 0, 1) := by decide +kernel
theorem dX7_init_29 : decode cX7_init 29 = .ok (.iconst 4, 1) := by decide +kernel
theorem dX7_init_30 : decode cX7_init 30 = .ok (.newarray .int, 2) := by decide +kernel
theorem dX7_init_32 : decode cX7_init 32 = .ok (.putfield 21, 3) := by decide +kernel
theorem dX7_init_35 : decode cX7_init 35 = .ok (.aload_n 0, 1) := by decide +kernel
theorem dX7_init_36 : decode cX7_init 36 = .ok (.iconst 0, 1) := by decide +kernel
theorem dX7_init_37 : decode cX7_init 37 = .ok (.putfield 24, 3) := by decide +kernel
theorem dX7_init_40 : decode cX7_init 40 = .ok (.aload_n 0, 1) := by decide +kernel
theorem dX7_init_41 : decode cX7_init 41 = .ok (.iconst (-1), 1) := by decide +kernel
theorem dX7_init_42 : decode cX7_init 42 = .ok (.putfield 28, 3) := by decide +kernel
theorem dX7_init_45 : decode cX7_init 45 = .ok (.aload_n 0, 1) := by decide +kernel
theorem dX7_init_46 : decode cX7_init 46 = .ok (.iconst (-1), 1) := by decide +kernel
theorem dX7_init_47 : decode cX7_init 47 = .ok (.putfield 31, 3) := by decide +kernel
theorem dX7_init_50 : decode cX7_init 50 = .ok (.aload_n 0, 1) := by decide +kernel
theorem dX7_init_51 : decode cX7_init 51 = .ok (.iconst 0, 1) := by decide +kernel
theorem dX7_init_52 : decode cX7_init 52 = .ok (.putfield 34, 3) := by decide +kernel
theorem dX7_init_55 : decode cX7_init 55 = .ok (.aload_n 0, 1) := by decide +kernel
theorem dX7_init_56 : decode cX7_init 56 = .ok (.iconst 0, 1) := by decide +kernel
theorem dX7_init_57 : decode cX7_init 57 = .ok (.putfield 37, 3) := by decide +kernel
theorem dX7_init_60 : decode cX7_init 60 = .ok (.aload_n 0, 1) := by decide +kernel
theorem dX7_init_61 : decode cX7_init 61 = .ok (.aload_n 1, 1) := by decide +kernel
theorem dX7_init_62 : decode cX7_init 62 = .ok (.putfield 40, 3) := by decide +kernel
theorem dX7_init_65 : decode cX7_init 65 = .ok (.aload_n 0, 1) := by decide +kernel
theorem dX7_init_66 : decode cX7_init 66 = .ok (.aload_n 2, 1) := by decide +kernel
theorem dX7_init_67 : decode cX7_init 67 = .ok (.putfield 44, 3) := by decide +kernel
theorem dX7_init_70 : decode cX7_init 70 = .ok (.aload_n 0, 1) := by decide +kernel
theorem dX7_init_71 : decode cX7_init 71 = .ok (.aload_n 3, 1) := by decide +kernel
theorem dX7_init_72 : decode cX7_init 72 = .ok (.putfield 48, 3) := by decide +kernel
theorem dX7_init_75 : decode cX7_init 75 = .ok (.return_, 1) := by decide +kernel
theorem dX7_seek_0 : decode cX7_seek 0 = .ok (.aload_n 0, 1) := by decide +kernel
theorem dX7_seek_1 : decode cX7_seek 1 = .ok (.getfield 44, 3) := by decide +kernel
theorem dX7_seek_4 : decode cX7_seek 4 = .ok (.iload_n 1, 1) := by decide +kernel
theorem dX7_seek_5 : decode cX7_seek 5 = .ok (.invokevirtual 52, 3) := by decide +kernel
theorem dX7_seek_8 : decode cX7_seek 8 = .ok (.istore_n 2, 1) := by decide +kernel
theorem dX7_seek_9 : decode cX7_seek 9 = .ok (.aload_n 0, 1) := by decide +kernel
theorem dX7_seek_10 : decode cX7_seek 10 = .ok (.aload_n 0, 1) := by decide +kernel
theorem dX7_seek_11 : decode cX7_seek 11 = .ok (.getfield 44, 3) := by decide +kernel
theorem dX7_seek_14 : decode cX7_seek 14 = .ok (.iload_n 1, 1) := by decide +kernel
theorem dX7_seek_15 : decode cX7_seek 15 = .ok (.invokevirtual 58, 3) := by decide +kernel
theorem dX7_seek_18 : decode cX7_seek 18 = .ok (.putfield 28, 3) := by decide +kernel
theorem dX7_seek_21 : decode cX7_seek 21 = .ok (.aload_n 0, 1) := by decide +kernel
theorem dX7_seek_22 : decode cX7_seek 22 = .ok (.getfield 48, 3) := by decide +kernel
theorem dX7_seek_25 : decode cX7_seek 25 = .ok (.aload_n 0, 1) := by decide +kernel
theorem dX7_seek_26 : decode cX7_seek 26 = .ok (.getfield 9, 3) := by decide +kernel
theorem dX7_seek_29 : decode cX7_seek 29 = .ok (.aload_n 0, 1) := by decide +kernel
theorem dX7_seek_30 : decode cX7_seek 30 = .ok (.getfield 28, 3) := by decide +kernel
theorem dX7_seek_33 : decode cX7_seek 33 = .ok (.aload_n 0, 1) := by decide +kernel
theorem dX7_seek_34 : decode cX7_seek 34 = .ok (.getfield 44, 3) := by decide +kernel
theorem dX7_seek_37 : decode cX7_seek 37 = .ok (.iload_n 1, 1) := by decide +kernel
theorem dX7_seek_38 : decode cX7_seek 38 = .ok (.invokevirtual 61, 3) := by decide +kernel
theorem dX7_seek_41 : decode cX7_seek 41 = .ok (.aload_n 0, 1) := by decide +kernel
theorem dX7_seek_42 : decode cX7_seek 42 = .ok (.getfield 44, 3) := by decide +kernel
theorem dX7_seek_45 : decode cX7_seek 45 = .ok (.iload_n 1, 1) := by decide +kernel
theorem dX7_seek_46 : decode cX7_seek 46 = .ok (.invokevirtual 64, 3) := by decide +kernel
theorem dX7_seek_49 : decode cX7_seek 49 = .ok (.iload_n 2, 1) := by decide +kernel
theorem dX7_seek_50 : decode cX7_seek 50 = .ok (.invokevirtual 67, 3) := by decide +kernel
theorem dX7_seek_53 : decode cX7_seek 53 = .ok (.aload_n 0, 1) := by decide +kernel
theorem dX7_seek_54 : decode cX7_seek 54 = .ok (.aload_n 0, 1) := by decide +kernel
theorem dX7_seek_55 : decode cX7_seek 55 = .ok (.getfield 40, 3) := by decide +kernel
theorem dX7_seek_58 : decode cX7_seek 58 = .ok (.aload_n 0, 1) := by decide +kernel
theorem dX7_seek_59 : decode cX7_seek 59 = .ok (.getfield 9, 3) := by decide +kernel
theorem dX7_seek_62 : decode cX7_seek 62 = .ok (.aload_n 0, 1) := by decide +kernel
theorem dX7_seek_63 : decode cX7_seek 63 = .ok (.getfield 48, 3) := by decide +kernel
theorem dX7_seek_66 : decode cX7_seek 66 = .ok (.aload_n 0, 1) := by decide +kernel
theorem dX7_seek_67 : decode cX7_seek 67 = .ok (.getfield 28, 3) := by decide +kernel
theorem dX7_seek_70 : decode cX7_seek 70 = .ok (.aload_n 0, 1) := by decide +kernel
theorem dX7_seek_71 : decode cX7_seek 71 = .ok (.getfield 28, 3) := by decide +kernel
theorem dX7_seek_74 : decode cX7_seek 74 = .ok (.bipush 10, 2) := by decide +kernel
theorem dX7_seek_76 : decode cX7_seek 76 = .ok (.iload_n 2, 1) := by decide +kernel
theorem dX7_seek_77 : decode cX7_seek 77 = .ok (.invokevirtual 73, 3) := by decide +kernel
theorem dX7_seek_80 : decode cX7_seek 80 = .ok (.invokevirtual 77, 3) := by decide +kernel
theorem dX7_seek_83 : decode cX7_seek 83 = .ok (.putfield 24, 3) := by decide +kernel
theorem dX7_seek_86 : decode cX7_seek 86 = .ok (.aload_n 0, 1) := by decide +kernel
theorem dX7_seek_87 : decode cX7_seek 87 = .ok (.iconst (-1), 1) := by decide +kernel
theorem dX7_seek_88 : decode cX7_seek 88 = .ok (.putfield 31, 3) := by decide +kernel
theorem dX7_seek_91 : decode cX7_seek 91 = .ok (.iconst 0, 1) := by decide +kernel
theorem dX7_seek_92 : decode cX7_seek 92 = .ok (.istore_n 3, 1) := by decide +kernel
theorem dX7_seek_93 : decode cX7_seek 93 = .ok (.iload_n 3, 1) := by decide +kernel
theorem dX7_seek_94 : decode cX7_seek 94 = .ok (.aload_n 0, 1) := by decide +kernel
theorem dX7_seek_95 : decode cX7_seek 95 = .ok (.getfield 40, 3) := by decide +kernel
theorem dX7_seek_98 : decode cX7_seek 98 = .ok (.getfield 83, 3) := by decide +kernel
theorem dX7_seek_101 : decode cX7_seek 101 = .ok (.if_icmp .ge 55, 3) := by decide +kernel
theorem dX7_seek_104 : decode cX7_seek 104 = .ok (.iload_n 3, 1) := by decide +kernel
theorem dX7_seek_105 : decode cX7_seek 105 = .ok (.bipush 16, 2) := by decide +kernel
theorem dX7_seek_107 : decode cX7_seek 107 = .ok (.if_icmp .ge 49, 3) := by decide +kernel
theorem dX7_seek_110 : decode cX7_seek 110 = .ok (.iload_n 3, 1) := by decide +kernel
theorem dX7_seek_111 : decode cX7_seek 111 = .ok (.aload_n 0, 1) := by decide +kernel
theorem dX7_seek_112 : decode cX7_seek 112 = .ok (.getfield 28, 3) := by decide +kernel
theorem dX7_seek_115 : decode cX7_seek 115 = .ok (.if_icmp .eq 35, 3) := by decide +kernel
theorem dX7_seek_118 : decode cX7_seek 118 = .ok (.aload_n 0, 1) := by decide +kernel
theorem dX7_seek_119 : decode cX7_seek 119 = .ok (.iload_n 3, 1) := by decide +kernel
theorem dX7_seek_120 : decode cX7_seek 120 = .ok (.iload_n 2, 1) := by decide +kernel
theorem dX7_seek_121 : decode cX7_seek 121 = .ok (.invokevirtual 86, 3) := by decide +kernel
theorem dX7_seek_124 : decode cX7_seek 124 = .ok (.aload_n 0, 1) := by decide +kernel
theorem dX7_seek_125 : decode cX7_seek 125 = .ok (.getfield 31, 3) := by decide +kernel
theorem dX7_seek_128 : decode cX7_seek 128 = .ok (.iconst (-1), 1) := by decide +kernel
theorem dX7_seek_129 : decode cX7_seek 129 = .ok (.if_icmp .eq 16, 3) := by decide +kernel
theorem dX7_seek_132 : decode cX7_seek 132 = .ok (.aload_n 0, 1) := by decide +kernel
theorem dX7_seek_133 : decode cX7_seek 133 = .ok (.getfield 15, 3) := by decide +kernel
theorem dX7_seek_136 : decode cX7_seek 136 = .ok (.iload_n 3, 1) := by decide +kernel
theorem dX7_seek_137 : decode cX7_seek 137 = .ok (.iaload, 1) := by decide +kernel
theorem dX7_seek_138 : decode cX7_seek 138 = .ok (.aload_n 0, 1) := by decide +kernel
theorem dX7_seek_139 : decode cX7_seek 139 = .ok (.invokevirtual 90, 3) := by decide +kernel
theorem dX7_seek_142 : decode cX7_seek 142 = .ok (.if_icmp .ge 8, 3) := by decide +kernel
theorem dX7_seek_145 : decode cX7_seek 145 = .ok (.aload_n 0, 1) := by decide +kernel
theorem dX7_seek_146 : decode cX7_seek 146 = .ok (.iload_n 3, 1) := by decide +kernel
theorem dX7_seek_147 : decode cX7_seek 147 = .ok (.putfield 31, 3) := by decide +kernel
theorem dX7_seek_150 : decode cX7_seek 150 = .ok (.iinc 3 1, 3) := by decide +kernel
theorem dX7_seek_153 : decode cX7_seek 153 = .ok (.goto (-60), 3) := by decide +kernel
theorem dX7_seek_156 : decode cX7_seek 156 = .ok (.return_, 1) := by decide +kernel
theorem dX7_compareMixes_0 : decode cX7_compareMixes 0 = .ok (.iconst 1, 1) := by decide +kernel
theorem dX7_compareMixes_1 : decode cX7_compareMixes 1 = .ok (.istore_n 3, 1) := by decide +kernel
theorem dX7_compareMixes_2 : decode cX7_compareMixes 2 = .ok (.iload_n 3, 1) := by decide +kernel
theorem dX7_compareMixes_3 : decode cX7_compareMixes 3 = .ok (.bipush 10, 2) := by decide +kernel
theorem dX7_compareMixes_5 : decode cX7_compareMixes 5 = .ok (.if_icmp .ge 67, 3) := by decide +kernel
theorem dX7_compareMixes_8 : decode cX7_compareMixes 8 = .ok (.aload_n 0, 1) := by decide +kernel
theorem dX7_compareMixes_9 : decode cX7_compareMixes 9 = .ok (.getfield 40, 3) := by decide +kernel
theorem dX7_compareMixes_12 : decode cX7_compareMixes 12 = .ok (.aload_n 0, 1) := by decide +kernel
theorem dX7_compareMixes_13 : decode cX7_compareMixes 13 = .ok (.getfield 9, 3) := by decide +kernel
theorem dX7_compareMixes_16 : decode cX7_compareMixes 16 = .ok (.aload_n 0, 1) := by decide +kernel
theorem dX7_compareMixes_17 : decode cX7_compareMixes 17 = .ok (.getfield 48, 3) := by decide +kernel
theorem dX7_compareMixes_20 : decode cX7_compareMixes 20 = .ok (.aload_n 0, 1) := by decide +kernel
theorem dX7_compareMixes_21 : decode cX7_compareMixes 21 = .ok (.getfield 28, 3) := by decide +kernel
theorem dX7_compareMixes_24 : decode cX7_compareMixes 24 = .ok (.iload_n 1, 1) := by decide +kernel
theorem dX7_compareMixes_25 : decode cX7_compareMixes 25 = .ok (.iload_n 3, 1) := by decide +kernel
theorem dX7_compareMixes_26 : decode cX7_compareMixes 26 = .ok (.iload_n 2, 1) := by decide +kernel
theorem dX7_compareMixes_27 : decode cX7_compareMixes 27 = .ok (.invokevirtual 73, 3) := by decide +kernel
theorem dX7_compareMixes_30 : decode cX7_compareMixes 30 = .ok (.invokevirtual 77, 3) := by decide +kernel
theorem dX7_compareMixes_33 : decode cX7_compareMixes 33 = .ok (.istore 4, 2) := by decide +kernel
theorem dX7_compareMixes_35 : decode cX7_compareMixes 35 = .ok (.iload_n 3, 1) := by decide +kernel
theorem dX7_compareMixes_36 : decode cX7_compareMixes 36 = .ok (.iconst 1, 1) := by decide +kernel
theorem dX7_compareMixes_37 : decode cX7_compareMixes 37 = .ok (.if_icmp .eq 14, 3) := by decide +kernel
theorem dX7_compareMixes_40 : decode cX7_compareMixes 40 = .ok (.iload 4, 2) := by decide +kernel
theorem dX7_compareMixes_42 : decode cX7_compareMixes 42 = .ok (.aload_n 0, 1) := by decide +kernel
theorem dX7_compareMixes_43 : decode cX7_compareMixes 43 = .ok (.getfield 15, 3) := by decide +kernel
theorem dX7_compareMixes_46 : decode cX7_compareMixes 46 = .ok (.iload_n 1, 1) := by decide +kernel
theorem dX7_compareMixes_47 : decode cX7_compareMixes 47 = .ok (.iaload, 1) := by decide +kernel
theorem dX7_compareMixes_48 : decode cX7_compareMixes 48 = .ok (.if_icmp .ge 18, 3) := by decide +kernel
theorem dX7_compareMixes_51 : decode cX7_compareMixes 51 = .ok (.aload_n 0, 1) := by decide +kernel
theorem dX7_compareMixes_52 : decode cX7_compareMixes 52 = .ok (.getfield 15, 3) := by decide +kernel
theorem dX7_compareMixes_55 : decode cX7_compareMixes 55 = .ok (.iload_n 1, 1) := by decide +kernel
theorem dX7_compareMixes_56 : decode cX7_compareMixes 56 = .ok (.iload 4, 2) := by decide +kernel
theorem dX7_compareMixes_58 : decode cX7_compareMixes 58 = .ok (.iastore, 1) := by decide +kernel
theorem dX7_compareMixes_59 : decode cX7_compareMixes 59 = .ok (.aload_n 0, 1) := by decide +kernel
theorem dX7_compareMixes_60 : decode cX7_compareMixes 60 = .ok (.getfield 18, 3) := by decide +kernel
theorem dX7_compareMixes_63 : decode cX7_compareMixes 63 = .ok (.iload_n 1, 1) := by decide +kernel
theorem dX7_compareMixes_64 : decode cX7_compareMixes 64 = .ok (.iload_n 3, 1) := by decide +kernel
theorem dX7_compareMixes_65 : decode cX7_compareMixes 65 = .ok (.iastore, 1) := by decide +kernel
theorem dX7_compareMixes_66 : decode cX7_compareMixes 66 = .ok (.iinc 3 1, 3) := by decide +kernel
theorem dX7_compareMixes_69 : decode cX7_compareMixes 69 = .ok (.goto (-67), 3) := by decide +kernel
theorem dX7_compareMixes_72 : decode cX7_compareMixes 72 = .ok (.return_, 1) := by decide +kernel
theorem dX7_foundShare_0 : decode cX7_foundShare 0 = .ok (.aload_n 0, 1) := by decide +kernel
theorem dX7_foundShare_1 : decode cX7_foundShare 1 = .ok (.getfield 40, 3) := by decide +kernel
theorem dX7_foundShare_4 : decode cX7_foundShare 4 = .ok (.aload_n 0, 1) := by decide +kernel
theorem dX7_foundShare_5 : decode cX7_foundShare 5 = .ok (.getfield 31, 3) := by decide +kernel
theorem dX7_foundShare_8 : decode cX7_foundShare 8 = .ok (.invokevirtual 94, 3) := by decide +kernel
theorem dX7_foundShare_11 : decode cX7_foundShare 11 = .ok (.ifCond .eq 15, 3) := by decide +kernel
theorem dX7_foundShare_14 : decode cX7_foundShare 14 = .ok (.aload_n 0, 1) := by decide +kernel
theorem dX7_foundShare_15 : decode cX7_foundShare 15 = .ok (.getfield 18, 3) := by decide +kernel
theorem dX7_foundShare_18 : decode cX7_foundShare 18 = .ok (.aload_n 0, 1) := by decide +kernel
theorem dX7_foundShare_19 : decode cX7_foundShare 19 = .ok (.getfield 31, 3) := by decide +kernel
theorem dX7_foundShare_22 : decode cX7_foundShare 22 = .ok (.iaload, 1) := by decide +kernel
theorem dX7_foundShare_23 : decode cX7_foundShare 23 = .ok (.goto 4, 3) := by decide +kernel
theorem dX7_foundShare_26 : decode cX7_foundShare 26 = .ok (.iconst (-1), 1) := by decide +kernel
theorem dX7_foundShare_27 : decode cX7_foundShare 27 = .ok (.ireturn, 1) := by decide +kernel
theorem dX7_foundFar_0 : decode cX7_foundFar 0 = .ok (.aload_n 0, 1) := by decide +kernel
theorem dX7_foundFar_1 : decode cX7_foundFar 1 = .ok (.getfield 40, 3) := by decide +kernel
theorem dX7_foundFar_4 : decode cX7_foundFar 4 = .ok (.aload_n 0, 1) := by decide +kernel
theorem dX7_foundFar_5 : decode cX7_foundFar 5 = .ok (.getfield 31, 3) := by decide +kernel
theorem dX7_foundFar_8 : decode cX7_foundFar 8 = .ok (.invokevirtual 94, 3) := by decide +kernel
theorem dX7_foundFar_11 : decode cX7_foundFar 11 = .ok (.ifCond .eq 15, 3) := by decide +kernel
theorem dX7_foundFar_14 : decode cX7_foundFar 14 = .ok (.aload_n 0, 1) := by decide +kernel
theorem dX7_foundFar_15 : decode cX7_foundFar 15 = .ok (.getfield 15, 3) := by decide +kernel
theorem dX7_foundFar_18 : decode cX7_foundFar 18 = .ok (.aload_n 0, 1) := by decide +kernel
theorem dX7_foundFar_19 : decode cX7_foundFar 19 = .ok (.getfield 31, 3) := by decide +kernel
theorem dX7_foundFar_22 : decode cX7_foundFar 22 = .ok (.iaload, 1) := by decide +kernel
theorem dX7_foundFar_23 : decode cX7_foundFar 23 = .ok (.goto 4, 3) := by decide +kernel
theorem dX7_foundFar_26 : decode cX7_foundFar 26 = .ok (.iconst (-1), 1) := by decide +kernel
theorem dX7_foundFar_27 : decode cX7_foundFar 27 = .ok (.ireturn, 1) := by decide +kernel
theorem dX7_isSure_0 : decode cX7_isSure 0 = .ok (.aload_n 0, 1) := by decide +kernel
theorem dX7_isSure_1 : decode cX7_isSure 1 = .ok (.invokevirtual 90, 3) := by decide +kernel
theorem dX7_isSure_4 : decode cX7_isSure 4 = .ok (.aload_n 0, 1) := by decide +kernel
theorem dX7_isSure_5 : decode cX7_isSure 5 = .ok (.getfield 40, 3) := by decide +kernel
theorem dX7_isSure_8 : decode cX7_isSure 8 = .ok (.getfield 98, 3) := by decide +kernel
theorem dX7_isSure_11 : decode cX7_isSure 11 = .ok (.iadd, 1) := by decide +kernel
theorem dX7_isSure_12 : decode cX7_isSure 12 = .ok (.istore_n 1, 1) := by decide +kernel
theorem dX7_isSure_13 : decode cX7_isSure 13 = .ok (.iconst 0, 1) := by decide +kernel
theorem dX7_isSure_14 : decode cX7_isSure 14 = .ok (.istore_n 2, 1) := by decide +kernel
theorem dX7_isSure_15 : decode cX7_isSure 15 = .ok (.iload_n 2, 1) := by decide +kernel
theorem dX7_isSure_16 : decode cX7_isSure 16 = .ok (.aload_n 0, 1) := by decide +kernel
theorem dX7_isSure_17 : decode cX7_isSure 17 = .ok (.getfield 40, 3) := by decide +kernel
theorem dX7_isSure_20 : decode cX7_isSure 20 = .ok (.getfield 83, 3) := by decide +kernel
theorem dX7_isSure_23 : decode cX7_isSure 23 = .ok (.if_icmp .ge 43, 3) := by decide +kernel
theorem dX7_isSure_26 : decode cX7_isSure 26 = .ok (.iload_n 2, 1) := by decide +kernel
theorem dX7_isSure_27 : decode cX7_isSure 27 = .ok (.bipush 16, 2) := by decide +kernel
theorem dX7_isSure_29 : decode cX7_isSure 29 = .ok (.if_icmp .ge 37, 3) := by decide +kernel
theorem dX7_isSure_32 : decode cX7_isSure 32 = .ok (.iload_n 2, 1) := by decide +kernel
theorem dX7_isSure_33 : decode cX7_isSure 33 = .ok (.aload_n 0, 1) := by decide +kernel
theorem dX7_isSure_34 : decode cX7_isSure 34 = .ok (.getfield 28, 3) := by decide +kernel
theorem dX7_isSure_37 : decode cX7_isSure 37 = .ok (.if_icmp .eq 23, 3) := by decide +kernel
theorem dX7_isSure_40 : decode cX7_isSure 40 = .ok (.iload_n 2, 1) := by decide +kernel
theorem dX7_isSure_41 : decode cX7_isSure 41 = .ok (.aload_n 0, 1) := by decide +kernel
theorem dX7_isSure_42 : decode cX7_isSure 42 = .ok (.getfield 31, 3) := by decide +kernel
theorem dX7_isSure_45 : decode cX7_isSure 45 = .ok (.if_icmp .eq 15, 3) := by decide +kernel
theorem dX7_isSure_48 : decode cX7_isSure 48 = .ok (.iload_n 1, 1) := by decide +kernel
theorem dX7_isSure_49 : decode cX7_isSure 49 = .ok (.aload_n 0, 1) := by decide +kernel
theorem dX7_isSure_50 : decode cX7_isSure 50 = .ok (.getfield 15, 3) := by decide +kernel
theorem dX7_isSure_53 : decode cX7_isSure 53 = .ok (.iload_n 2, 1) := by decide +kernel
theorem dX7_isSure_54 : decode cX7_isSure 54 = .ok (.iaload, 1) := by decide +kernel
theorem dX7_isSure_55 : decode cX7_isSure 55 = .ok (.if_icmp .lt 5, 3) := by decide +kernel
theorem dX7_isSure_58 : decode cX7_isSure 58 = .ok (.iconst 0, 1) := by decide +kernel
theorem dX7_isSure_59 : decode cX7_isSure 59 = .ok (.ireturn, 1) := by decide +kernel
theorem dX7_isSure_60 : decode cX7_isSure 60 = .ok (.iinc 2 1, 3) := by decide +kernel
theorem dX7_isSure_63 : decode cX7_isSure 63 = .ok (.goto (-48), 3) := by decide +kernel
theorem dX7_isSure_66 : decode cX7_isSure 66 = .ok (.iload_n 1, 1) := by decide +kernel
theorem dX7_isSure_67 : decode cX7_isSure 67 = .ok (.aload_n 0, 1) := by decide +kernel
theorem dX7_isSure_68 : decode cX7_isSure 68 = .ok (.getfield 24, 3) := by decide +kernel
theorem dX7_isSure_71 : decode cX7_isSure 71 = .ok (.if_icmp .ge 7, 3) := by decide +kernel
theorem dX7_isSure_74 : decode cX7_isSure 74 = .ok (.iconst 1, 1) := by decide +kernel
theorem dX7_isSure_75 : decode cX7_isSure 75 = .ok (.goto 4, 3) := by decide +kernel
theorem dX7_isSure_78 : decode cX7_isSure 78 = .ok (.iconst 0, 1) := by decide +kernel
theorem dX7_isSure_79 : decode cX7_isSure 79 = .ok (.ireturn, 1) := by decide +kernel
theorem dX7_look_0 : decode cX7_look 0 = .ok (.aload_n 0, 1) := by decide +kernel
theorem dX7_look_1 : decode cX7_look 1 = .ok (.iload_n 2, 1) := by decide +kernel
theorem dX7_look_2 : decode cX7_look 2 = .ok (.invokevirtual 101, 3) := by decide +kernel
theorem dX7_look_5 : decode cX7_look 5 = .ok (.aload_n 0, 1) := by decide +kernel
theorem dX7_look_6 : decode cX7_look 6 = .ok (.iconst 0, 1) := by decide +kernel
theorem dX7_look_7 : decode cX7_look 7 = .ok (.putfield 34, 3) := by decide +kernel
theorem dX7_look_10 : decode cX7_look 10 = .ok (.aload_n 0, 1) := by decide +kernel
theorem dX7_look_11 : decode cX7_look 11 = .ok (.iconst 0, 1) := by decide +kernel
theorem dX7_look_12 : decode cX7_look 12 = .ok (.putfield 37, 3) := by decide +kernel
theorem dX7_look_15 : decode cX7_look 15 = .ok (.iconst 0, 1) := by decide +kernel
theorem dX7_look_16 : decode cX7_look 16 = .ok (.istore_n 3, 1) := by decide +kernel
theorem dX7_look_17 : decode cX7_look 17 = .ok (.iload_n 3, 1) := by decide +kernel
theorem dX7_look_18 : decode cX7_look 18 = .ok (.bipush 16, 2) := by decide +kernel
theorem dX7_look_20 : decode cX7_look 20 = .ok (.if_icmp .ge 45, 3) := by decide +kernel
theorem dX7_look_23 : decode cX7_look 23 = .ok (.aload_n 0, 1) := by decide +kernel
theorem dX7_look_24 : decode cX7_look 24 = .ok (.iload_n 3, 1) := by decide +kernel
theorem dX7_look_25 : decode cX7_look 25 = .ok (.invokevirtual 105, 3) := by decide +kernel
theorem dX7_look_28 : decode cX7_look 28 = .ok (.istore 4, 2) := by decide +kernel
theorem dX7_look_30 : decode cX7_look 30 = .ok (.iload 4, 2) := by decide +kernel
theorem dX7_look_32 : decode cX7_look 32 = .ok (.aload_n 0, 1) := by decide +kernel
theorem dX7_look_33 : decode cX7_look 33 = .ok (.getfield 37, 3) := by decide +kernel
theorem dX7_look_36 : decode cX7_look 36 = .ok (.if_icmp .le 23, 3) := by decide +kernel
theorem dX7_look_39 : decode cX7_look 39 = .ok (.aload_n 0, 1) := by decide +kernel
theorem dX7_look_40 : decode cX7_look 40 = .ok (.iload_n 3, 1) := by decide +kernel
theorem dX7_look_41 : decode cX7_look 41 = .ok (.invokevirtual 108, 3) := by decide +kernel
theorem dX7_look_44 : decode cX7_look 44 = .ok (.iload_n 1, 1) := by decide +kernel
theorem dX7_look_45 : decode cX7_look 45 = .ok (.if_icmp .gt 14, 3) := by decide +kernel
theorem dX7_look_48 : decode cX7_look 48 = .ok (.aload_n 0, 1) := by decide +kernel
theorem dX7_look_49 : decode cX7_look 49 = .ok (.iload_n 3, 1) := by decide +kernel
theorem dX7_look_50 : decode cX7_look 50 = .ok (.putfield 34, 3) := by decide +kernel
theorem dX7_look_53 : decode cX7_look 53 = .ok (.aload_n 0, 1) := by decide +kernel
theorem dX7_look_54 : decode cX7_look 54 = .ok (.iload 4, 2) := by decide +kernel
theorem dX7_look_56 : decode cX7_look 56 = .ok (.putfield 37, 3) := by decide +kernel
theorem dX7_look_59 : decode cX7_look 59 = .ok (.iinc 3 1, 3) := by decide +kernel
theorem dX7_look_62 : decode cX7_look 62 = .ok (.goto (-45), 3) := by decide +kernel
theorem dX7_look_65 : decode cX7_look 65 = .ok (.return_, 1) := by decide +kernel
theorem dX7_countShowing_0 : decode cX7_countShowing 0 = .ok (.iconst 0, 1) := by decide +kernel
theorem dX7_countShowing_1 : decode cX7_countShowing 1 = .ok (.istore_n 2, 1) := by decide +kernel
theorem dX7_countShowing_2 : decode cX7_countShowing 2 = .ok (.iload_n 2, 1) := by decide +kernel
theorem dX7_countShowing_3 : decode cX7_countShowing 3 = .ok (.iconst 4, 1) := by decide +kernel
theorem dX7_countShowing_4 : decode cX7_countShowing 4 = .ok (.if_icmp .ge 16, 3) := by decide +kernel
theorem dX7_countShowing_7 : decode cX7_countShowing 7 = .ok (.aload_n 0, 1) := by decide +kernel
theorem dX7_countShowing_8 : decode cX7_countShowing 8 = .ok (.getfield 21, 3) := by decide +kernel
theorem dX7_countShowing_11 : decode cX7_countShowing 11 = .ok (.iload_n 2, 1) := by decide +kernel
theorem dX7_countShowing_12 : decode cX7_countShowing 12 = .ok (.iconst 0, 1) := by decide +kernel
theorem dX7_countShowing_13 : decode cX7_countShowing 13 = .ok (.iastore, 1) := by decide +kernel
theorem dX7_countShowing_14 : decode cX7_countShowing 14 = .ok (.iinc 2 1, 3) := by decide +kernel
theorem dX7_countShowing_17 : decode cX7_countShowing 17 = .ok (.goto (-15), 3) := by decide +kernel
theorem dX7_countShowing_20 : decode cX7_countShowing 20 = .ok (.iconst 0, 1) := by decide +kernel
theorem dX7_countShowing_21 : decode cX7_countShowing 21 = .ok (.istore_n 2, 1) := by decide +kernel
theorem dX7_countShowing_22 : decode cX7_countShowing 22 = .ok (.iload_n 2, 1) := by decide +kernel
theorem dX7_countShowing_23 : decode cX7_countShowing 23 = .ok (.aload_n 0, 1) := by decide +kernel
theorem dX7_countShowing_24 : decode cX7_countShowing 24 = .ok (.getfield 44, 3) := by decide +kernel
theorem dX7_countShowing_27 : decode cX7_countShowing 27 = .ok (.getfield 111, 3) := by decide +kernel
theorem dX7_countShowing_30 : decode cX7_countShowing 30 = .ok (.if_icmp .ge 103, 3) := by decide +kernel
theorem dX7_countShowing_33 : decode cX7_countShowing 33 = .ok (.aload_n 0, 1) := by decide +kernel
theorem dX7_countShowing_34 : decode cX7_countShowing 34 = .ok (.getfield 44, 3) := by decide +kernel
theorem dX7_countShowing_37 : decode cX7_countShowing 37 = .ok (.iload_n 2, 1) := by decide +kernel
theorem dX7_countShowing_38 : decode cX7_countShowing 38 = .ok (.invokevirtual 52, 3) := by decide +kernel
theorem dX7_countShowing_41 : decode cX7_countShowing 41 = .ok (.istore_n 3, 1) := by decide +kernel
theorem dX7_countShowing_42 : decode cX7_countShowing 42 = .ok (.iload_n 3, 1) := by decide +kernel
theorem dX7_countShowing_43 : decode cX7_countShowing 43 = .ok (.ifCond .lt 84, 3) := by decide +kernel
theorem dX7_countShowing_46 : decode cX7_countShowing 46 = .ok (.iload_n 3, 1) := by decide +kernel
theorem dX7_countShowing_47 : decode cX7_countShowing 47 = .ok (.iconst 4, 1) := by decide +kernel
theorem dX7_countShowing_48 : decode cX7_countShowing 48 = .ok (.if_icmp .ge 79, 3) := by decide +kernel
theorem dX7_countShowing_51 : decode cX7_countShowing 51 = .ok (.aload_n 0, 1) := by decide +kernel
theorem dX7_countShowing_52 : decode cX7_countShowing 52 = .ok (.getfield 44, 3) := by decide +kernel
theorem dX7_countShowing_55 : decode cX7_countShowing 55 = .ok (.iload_n 2, 1) := by decide +kernel
theorem dX7_countShowing_56 : decode cX7_countShowing 56 = .ok (.iload_n 1, 1) := by decide +kernel
theorem dX7_countShowing_57 : decode cX7_countShowing 57 = .ok (.invokevirtual 114, 3) := by decide +kernel
theorem dX7_countShowing_60 : decode cX7_countShowing 60 = .ok (.ifCond .eq 67, 3) := by decide +kernel
theorem dX7_countShowing_63 : decode cX7_countShowing 63 = .ok (.aload_n 0, 1) := by decide +kernel
theorem dX7_countShowing_64 : decode cX7_countShowing 64 = .ok (.getfield 44, 3) := by decide +kernel
theorem dX7_countShowing_67 : decode cX7_countShowing 67 = .ok (.iload_n 2, 1) := by decide +kernel
theorem dX7_countShowing_68 : decode cX7_countShowing 68 = .ok (.invokevirtual 118, 3) := by decide +kernel
theorem dX7_countShowing_71 : decode cX7_countShowing 71 = .ok (.ifCond .eq 56, 3) := by decide +kernel
theorem dX7_countShowing_74 : decode cX7_countShowing 74 = .ok (.aload_n 0, 1) := by decide +kernel
theorem dX7_countShowing_75 : decode cX7_countShowing 75 = .ok (.getfield 48, 3) := by decide +kernel
theorem dX7_countShowing_78 : decode cX7_countShowing 78 = .ok (.aload_n 0, 1) := by decide +kernel
theorem dX7_countShowing_79 : decode cX7_countShowing 79 = .ok (.getfield 44, 3) := by decide +kernel
theorem dX7_countShowing_82 : decode cX7_countShowing 82 = .ok (.iload_n 2, 1) := by decide +kernel
theorem dX7_countShowing_83 : decode cX7_countShowing 83 = .ok (.invokevirtual 58, 3) := by decide +kernel
theorem dX7_countShowing_86 : decode cX7_countShowing 86 = .ok (.aload_n 0, 1) := by decide +kernel
theorem dX7_countShowing_87 : decode cX7_countShowing 87 = .ok (.getfield 44, 3) := by decide +kernel
theorem dX7_countShowing_90 : decode cX7_countShowing 90 = .ok (.iload_n 2, 1) := by decide +kernel
theorem dX7_countShowing_91 : decode cX7_countShowing 91 = .ok (.invokevirtual 61, 3) := by decide +kernel
theorem dX7_countShowing_94 : decode cX7_countShowing 94 = .ok (.aload_n 0, 1) := by decide +kernel
theorem dX7_countShowing_95 : decode cX7_countShowing 95 = .ok (.getfield 44, 3) := by decide +kernel
theorem dX7_countShowing_98 : decode cX7_countShowing 98 = .ok (.iload_n 2, 1) := by decide +kernel
theorem dX7_countShowing_99 : decode cX7_countShowing 99 = .ok (.invokevirtual 64, 3) := by decide +kernel
theorem dX7_countShowing_102 : decode cX7_countShowing 102 = .ok (.iload_n 3, 1) := by decide +kernel
theorem dX7_countShowing_103 : decode cX7_countShowing 103 = .ok (.invokevirtual 121, 3) := by decide +kernel
theorem dX7_countShowing_106 : decode cX7_countShowing 106 = .ok (.istore 4, 2) := by decide +kernel
theorem dX7_countShowing_108 : decode cX7_countShowing 108 = .ok (.aload_n 0, 1) := by decide +kernel
theorem dX7_countShowing_109 : decode cX7_countShowing 109 = .ok (.getfield 21, 3) := by decide +kernel
theorem dX7_countShowing_112 : decode cX7_countShowing 112 = .ok (.iload_n 3, 1) := by decide +kernel
theorem dX7_countShowing_113 : decode cX7_countShowing 113 = .ok (.dup2, 1) := by decide +kernel
theorem dX7_countShowing_114 : decode cX7_countShowing 114 = .ok (.iaload, 1) := by decide +kernel
theorem dX7_countShowing_115 : decode cX7_countShowing 115 = .ok (.iload 4, 2) := by decide +kernel
theorem dX7_countShowing_117 : decode cX7_countShowing 117 = .ok (.ifCond .ne 7, 3) := by decide +kernel
theorem dX7_countShowing_120 : decode cX7_countShowing 120 = .ok (.iconst 0, 1) := by decide +kernel
theorem dX7_countShowing_121 : decode cX7_countShowing 121 = .ok (.goto 4, 3) := by decide +kernel
theorem dX7_countShowing_124 : decode cX7_countShowing 124 = .ok (.iconst 1, 1) := by decide +kernel
theorem dX7_countShowing_125 : decode cX7_countShowing 125 = .ok (.iadd, 1) := by decide +kernel
theorem dX7_countShowing_126 : decode cX7_countShowing 126 = .ok (.iastore, 1) := by decide +kernel
theorem dX7_countShowing_127 : decode cX7_countShowing 127 = .ok (.iinc 2 1, 3) := by decide +kernel
theorem dX7_countShowing_130 : decode cX7_countShowing 130 = .ok (.goto (-108), 3) := by decide +kernel
theorem dX7_countShowing_133 : decode cX7_countShowing 133 = .ok (.return_, 1) := by decide +kernel
theorem dX7_showingOf_0 : decode cX7_showingOf 0 = .ok (.iconst 0, 1) := by decide +kernel
theorem dX7_showingOf_1 : decode cX7_showingOf 1 = .ok (.istore_n 2, 1) := by decide +kernel
theorem dX7_showingOf_2 : decode cX7_showingOf 2 = .ok (.iconst 0, 1) := by decide +kernel
theorem dX7_showingOf_3 : decode cX7_showingOf 3 = .ok (.istore_n 3, 1) := by decide +kernel
theorem dX7_showingOf_4 : decode cX7_showingOf 4 = .ok (.iload_n 3, 1) := by decide +kernel
theorem dX7_showingOf_5 : decode cX7_showingOf 5 = .ok (.iconst 4, 1) := by decide +kernel
theorem dX7_showingOf_6 : decode cX7_showingOf 6 = .ok (.if_icmp .ge 27, 3) := by decide +kernel
theorem dX7_showingOf_9 : decode cX7_showingOf 9 = .ok (.iload_n 1, 1) := by decide +kernel
theorem dX7_showingOf_10 : decode cX7_showingOf 10 = .ok (.iload_n 3, 1) := by decide +kernel
theorem dX7_showingOf_11 : decode cX7_showingOf 11 = .ok (.ishr, 1) := by decide +kernel
theorem dX7_showingOf_12 : decode cX7_showingOf 12 = .ok (.iconst 1, 1) := by decide +kernel
theorem dX7_showingOf_13 : decode cX7_showingOf 13 = .ok (.iand, 1) := by decide +kernel
theorem dX7_showingOf_14 : decode cX7_showingOf 14 = .ok (.iconst 1, 1) := by decide +kernel
theorem dX7_showingOf_15 : decode cX7_showingOf 15 = .ok (.if_icmp .ne 12, 3) := by decide +kernel
theorem dX7_showingOf_18 : decode cX7_showingOf 18 = .ok (.iload_n 2, 1) := by decide +kernel
theorem dX7_showingOf_19 : decode cX7_showingOf 19 = .ok (.aload_n 0, 1) := by decide +kernel
theorem dX7_showingOf_20 : decode cX7_showingOf 20 = .ok (.getfield 21, 3) := by decide +kernel
theorem dX7_showingOf_23 : decode cX7_showingOf 23 = .ok (.iload_n 3, 1) := by decide +kernel
theorem dX7_showingOf_24 : decode cX7_showingOf 24 = .ok (.iaload, 1) := by decide +kernel
theorem dX7_showingOf_25 : decode cX7_showingOf 25 = .ok (.iadd, 1) := by decide +kernel
theorem dX7_showingOf_26 : decode cX7_showingOf 26 = .ok (.istore_n 2, 1) := by decide +kernel
theorem dX7_showingOf_27 : decode cX7_showingOf 27 = .ok (.iinc 3 1, 3) := by decide +kernel
theorem dX7_showingOf_30 : decode cX7_showingOf 30 = .ok (.goto (-26), 3) := by decide +kernel
theorem dX7_showingOf_33 : decode cX7_showingOf 33 = .ok (.iload_n 2, 1) := by decide +kernel
theorem dX7_showingOf_34 : decode cX7_showingOf 34 = .ok (.ireturn, 1) := by decide +kernel
theorem dX7_costOf_0 : decode cX7_costOf 0 = .ok (.iconst 0, 1) := by decide +kernel
theorem dX7_costOf_1 : decode cX7_costOf 1 = .ok (.istore_n 2, 1) := by decide +kernel
theorem dX7_costOf_2 : decode cX7_costOf 2 = .ok (.iconst 0, 1) := by decide +kernel
theorem dX7_costOf_3 : decode cX7_costOf 3 = .ok (.istore_n 3, 1) := by decide +kernel
theorem dX7_costOf_4 : decode cX7_costOf 4 = .ok (.iload_n 3, 1) := by decide +kernel
theorem dX7_costOf_5 : decode cX7_costOf 5 = .ok (.iconst 4, 1) := by decide +kernel
theorem dX7_costOf_6 : decode cX7_costOf 6 = .ok (.if_icmp .ge 29, 3) := by decide +kernel
theorem dX7_costOf_9 : decode cX7_costOf 9 = .ok (.iload_n 1, 1) := by decide +kernel
theorem dX7_costOf_10 : decode cX7_costOf 10 = .ok (.iload_n 3, 1) := by decide +kernel
theorem dX7_costOf_11 : decode cX7_costOf 11 = .ok (.ishr, 1) := by decide +kernel
theorem dX7_costOf_12 : decode cX7_costOf 12 = .ok (.iconst 1, 1) := by decide +kernel
theorem dX7_costOf_13 : decode cX7_costOf 13 = .ok (.iand, 1) := by decide +kernel
theorem dX7_costOf_14 : decode cX7_costOf 14 = .ok (.iconst 1, 1) := by decide +kernel
theorem dX7_costOf_15 : decode cX7_costOf 15 = .ok (.if_icmp .ne 14, 3) := by decide +kernel
theorem dX7_costOf_18 : decode cX7_costOf 18 = .ok (.iload_n 2, 1) := by decide +kernel
theorem dX7_costOf_19 : decode cX7_costOf 19 = .ok (.aload_n 0, 1) := by decide +kernel
theorem dX7_costOf_20 : decode cX7_costOf 20 = .ok (.getfield 40, 3) := by decide +kernel
theorem dX7_costOf_23 : decode cX7_costOf 23 = .ok (.iload_n 3, 1) := by decide +kernel
theorem dX7_costOf_24 : decode cX7_costOf 24 = .ok (.invokevirtual 125, 3) := by decide +kernel
theorem dX7_costOf_27 : decode cX7_costOf 27 = .ok (.iadd, 1) := by decide +kernel
theorem dX7_costOf_28 : decode cX7_costOf 28 = .ok (.istore_n 2, 1) := by decide +kernel
theorem dX7_costOf_29 : decode cX7_costOf 29 = .ok (.iinc 3 1, 3) := by decide +kernel
theorem dX7_costOf_32 : decode cX7_costOf 32 = .ok (.goto (-28), 3) := by decide +kernel
theorem dX7_costOf_35 : decode cX7_costOf 35 = .ok (.iload_n 2, 1) := by decide +kernel
theorem dX7_costOf_36 : decode cX7_costOf 36 = .ok (.ireturn, 1) := by decide +kernel
theorem dX8_init_0 : decode cX8_init 0 = .ok (.aload_n 0, 1) := by decide +kernel
theorem dX8_init_1 : decode cX8_init 1 = .ok (.invokespecial 3, 3) := by decide +kernel
theorem dX8_init_4 : decode cX8_init 4 = .ok (.aload_n 0, 1) := by decide +kernel
theorem dX8_init_5 : decode cX8_init 5 = .ok (.bipush 24, 2) := by decide +kernel
theorem dX8_init_7 : decode cX8_init 7 = .ok (.newarray .long, 2) := by decide +kernel
theorem dX8_init_9 : decode cX8_init 9 = .ok (.putfield 11, 3) := by decide +kernel
theorem dX8_init_12 : decode cX8_init 12 = .ok (.aload_n 0, 1) := by decide +kernel
theorem dX8_init_13 : decode cX8_init 13 = .ok (.sipush 1601, 3) := by decide +kernel
theorem dX8_init_16 : decode cX8_init 16 = .ok (.newarray .int, 2) := by decide +kernel
theorem dX8_init_18 : decode cX8_init 18 = .ok (.putfield 15, 3) := by decide +kernel
theorem dX8_init_21 : decode cX8_init 21 = .ok (.aload_n 0, 1) := by decide +kernel
theorem dX8_init_22 : decode cX8_init 22 = .ok (.sipush 1601, 3) := by decide +kernel
theorem dX8_init_25 : decode cX8_init 25 = .ok (.newarray .int, 2) := by decide +kernel
theorem dX8_init_27 : decode cX8_init 27 = .ok (.putfield 19, 3) := by decide +kernel
theorem dX8_init_30 : decode cX8_init 30 = .ok (.aload_n 0, 1) := by decide +kernel
theorem dX8_init_31 : decode cX8_init 31 = .ok (.sipush 1601, 3) := by decide +kernel
theorem dX8_init_34 : decode cX8_init 34 = .ok (.newarray .long, 2) := by decide +kernel
theorem dX8_init_36 : decode cX8_init 36 = .ok (.putfield 22, 3) := by decide +kernel
theorem dX8_init_39 : decode cX8_init 39 = .ok (.aload_n 0, 1) := by decide +kernel
theorem dX8_init_40 : decode cX8_init 40 = .ok (.iconst 0, 1) := by decide +kernel
theorem dX8_init_41 : decode cX8_init 41 = .ok (.putfield 25, 3) := by decide +kernel
theorem dX8_init_44 : decode cX8_init 44 = .ok (.aload_n 0, 1) := by decide +kernel
theorem dX8_init_45 : decode cX8_init 45 = .ok (.iconst 0, 1) := by decide +kernel
theorem dX8_init_46 : decode cX8_init 46 = .ok (.putfield 29, 3) := by decide +kernel
theorem dX8_init_49 : decode cX8_init 49 = .ok (.aload_n 0, 1) := by decide +kernel
theorem dX8_init_50 : decode cX8_init 50 = .ok (.iconst 0, 1) := by decide +kernel
theorem dX8_init_51 : decode cX8_init 51 = .ok (.putfield 33, 3) := by decide +kernel
theorem dX8_init_54 : decode cX8_init 54 = .ok (.aload_n 0, 1) := by decide +kernel
theorem dX8_init_55 : decode cX8_init 55 = .ok (.iconst 0, 1) := by decide +kernel
theorem dX8_init_56 : decode cX8_init 56 = .ok (.putfield 36, 3) := by decide +kernel
theorem dX8_init_59 : decode cX8_init 59 = .ok (.aload_n 0, 1) := by decide +kernel
theorem dX8_init_60 : decode cX8_init 60 = .ok (.iconst (-1), 1) := by decide +kernel
theorem dX8_init_61 : decode cX8_init 61 = .ok (.putfield 39, 3) := by decide +kernel
theorem dX8_init_64 : decode cX8_init 64 = .ok (.aload_n 0, 1) := by decide +kernel
theorem dX8_init_65 : decode cX8_init 65 = .ok (.bipush 26, 2) := by decide +kernel
theorem dX8_init_67 : decode cX8_init 67 = .ok (.putfield 42, 3) := by decide +kernel
theorem dX8_init_70 : decode cX8_init 70 = .ok (.aload_n 0, 1) := by decide +kernel
theorem dX8_init_71 : decode cX8_init 71 = .ok (.iconst 0, 1) := by decide +kernel
theorem dX8_init_72 : decode cX8_init 72 = .ok (.putfield 45, 3) := by decide +kernel
theorem dX8_init_75 : decode cX8_init 75 = .ok (.aload_n 0, 1) := by decide +kernel
theorem dX8_init_76 : decode cX8_init 76 = .ok (.lconst 0, 1) := by decide +kernel
theorem dX8_init_77 : decode cX8_init 77 = .ok (.putfield 48, 3) := by decide +kernel
theorem dX8_init_80 : decode cX8_init 80 = .ok (.aload_n 0, 1) := by decide +kernel
theorem dX8_init_81 : decode cX8_init 81 = .ok (.iconst 0, 1) := by decide +kernel
theorem dX8_init_82 : decode cX8_init 82 = .ok (.putfield 52, 3) := by decide +kernel
theorem dX8_init_85 : decode cX8_init 85 = .ok (.aload_n 0, 1) := by decide +kernel
theorem dX8_init_86 : decode cX8_init 86 = .ok (.iconst (-1), 1) := by decide +kernel
theorem dX8_init_87 : decode cX8_init 87 = .ok (.putfield 55, 3) := by decide +kernel
theorem dX8_init_90 : decode cX8_init 90 = .ok (.aload_n 0, 1) := by decide +kernel
theorem dX8_init_91 : decode cX8_init 91 = .ok (.aload_n 1, 1) := by decide +kernel
theorem dX8_init_92 : decode cX8_init 92 = .ok (.putfield 58, 3) := by decide +kernel
theorem dX8_init_95 : decode cX8_init 95 = .ok (.iconst 0, 1) := by decide +kernel
theorem dX8_init_96 : decode cX8_init 96 = .ok (.istore_n 2, 1) := by decide +kernel
theorem dX8_init_97 : decode cX8_init 97 = .ok (.iload_n 2, 1) := by decide +kernel
theorem dX8_init_98 : decode cX8_init 98 = .ok (.ldc 62, 2) := by decide +kernel
theorem dX8_init_100 : decode cX8_init 100 = .ok (.invokevirtual 64, 3) := by decide +kernel
theorem dX8_init_103 : decode cX8_init 103 = .ok (.if_icmp .ge 56, 3) := by decide +kernel
theorem dX8_init_106 : decode cX8_init 106 = .ok (.iload_n 2, 1) := by decide +kernel
theorem dX8_init_107 : decode cX8_init 107 = .ok (.bipush 8, 2) := by decide +kernel
theorem dX8_init_109 : decode cX8_init 109 = .ok (.idiv, 1) := by decide +kernel
theorem dX8_init_110 : decode cX8_init 110 = .ok (.bipush 24, 2) := by decide +kernel
theorem dX8_init_112 : decode cX8_init 112 = .ok (.if_icmp .ge 47, 3) := by decide +kernel
theorem dX8_init_115 : decode cX8_init 115 = .ok (.ldc 62, 2) := by decide +kernel
theorem dX8_init_117 : decode cX8_init 117 = .ok (.iload_n 2, 1) := by decide +kernel
theorem dX8_init_118 : decode cX8_init 118 = .ok (.invokevirtual 69, 3) := by decide +kernel
theorem dX8_init_121 : decode cX8_init 121 = .ok (.bipush 32, 2) := by decide +kernel
theorem dX8_init_123 : decode cX8_init 123 = .ok (.if_icmp .eq 30, 3) := by decide +kernel
theorem dX8_init_126 : decode cX8_init 126 = .ok (.aload_n 0, 1) := by decide +kernel
theorem dX8_init_127 : decode cX8_init 127 = .ok (.getfield 11, 3) := by decide +kernel
theorem dX8_init_130 : decode cX8_init 130 = .ok (.iload_n 2, 1) := by decide +kernel
theorem dX8_init_131 : decode cX8_init 131 = .ok (.bipush 8, 2) := by decide +kernel
theorem dX8_init_133 : decode cX8_init 133 = .ok (.idiv, 1) := by decide +kernel
theorem dX8_init_134 : decode cX8_init 134 = .ok (.aload_n 0, 1) := by decide +kernel
theorem dX8_init_135 : decode cX8_init 135 = .ok (.getfield 11, 3) := by decide +kernel
theorem dX8_init_138 : decode cX8_init 138 = .ok (.iload_n 2, 1) := by decide +kernel
theorem dX8_init_139 : decode cX8_init 139 = .ok (.bipush 8, 2) := by decide +kernel
theorem dX8_init_141 : decode cX8_init 141 = .ok (.idiv, 1) := by decide +kernel
theorem dX8_init_142 : decode cX8_init 142 = .ok (.laload, 1) := by decide +kernel
theorem dX8_init_143 : decode cX8_init 143 = .ok (.ldc 62, 2) := by decide +kernel
theorem dX8_init_145 : decode cX8_init 145 = .ok (.iload_n 2, 1) := by decide +kernel
theorem dX8_init_146 : decode cX8_init 146 = .ok (.invokevirtual 69, 3) := by decide +kernel
theorem dX8_init_149 : decode cX8_init 149 = .ok (.invokestatic 73, 3) := by decide +kernel
theorem dX8_init_152 : decode cX8_init 152 = .ok (.lastore, 1) := by decide +kernel
theorem dX8_init_153 : decode cX8_init 153 = .ok (.iinc 2 1, 3) := by decide +kernel
theorem dX8_init_156 : decode cX8_init 156 = .ok (.goto (-59), 3) := by decide +kernel
theorem dX8_init_159 : decode cX8_init 159 = .ok (.return_, 1) := by decide +kernel
theorem dX8_open_0 : decode cX8_open 0 = .ok (.aload_n 0, 1) := by decide +kernel
theorem dX8_open_1 : decode cX8_open 1 = .ok (.iload_n 1, 1) := by decide +kernel
theorem dX8_open_2 : decode cX8_open 2 = .ok (.aload_n 0, 1) := by decide +kernel
theorem dX8_open_3 : decode cX8_open 3 = .ok (.getfield 58, 3) := by decide +kernel
theorem dX8_open_6 : decode cX8_open 6 = .ok (.arraylength, 1) := by decide +kernel
theorem dX8_open_7 : decode cX8_open 7 = .ok (.invokestatic 77, 3) := by decide +kernel
theorem dX8_open_10 : decode cX8_open 10 = .ok (.putfield 25, 3) := by decide +kernel
theorem dX8_open_13 : decode cX8_open 13 = .ok (.aload_n 0, 1) := by decide +kernel
theorem dX8_open_14 : decode cX8_open 14 = .ok (.iload_n 2, 1) := by decide +kernel
theorem dX8_open_15 : decode cX8_open 15 = .ok (.putfield 29, 3) := by decide +kernel
theorem dX8_open_18 : decode cX8_open 18 = .ok (.aload_n 0, 1) := by decide +kernel
theorem dX8_open_19 : decode cX8_open 19 = .ok (.iconst 0, 1) := by decide +kernel
theorem dX8_open_20 : decode cX8_open 20 = .ok (.putfield 52, 3) := by decide +kernel
theorem dX8_open_23 : decode cX8_open 23 = .ok (.aload_n 0, 1) := by decide +kernel
theorem dX8_open_24 : decode cX8_open 24 = .ok (.iconst (-1), 1) := by decide +kernel
theorem dX8_open_25 : decode cX8_open 25 = .ok (.putfield 55, 3) := by decide +kernel
theorem dX8_open_28 : decode cX8_open 28 = .ok (.aload_n 0, 1) := by decide +kernel
theorem dX8_open_29 : decode cX8_open 29 = .ok (.iconst 0, 1) := by decide +kernel
theorem dX8_open_30 : decode cX8_open 30 = .ok (.putfield 33, 3) := by decide +kernel
theorem dX8_open_33 : decode cX8_open 33 = .ok (.aload_n 0, 1) := by decide +kernel
theorem dX8_open_34 : decode cX8_open 34 = .ok (.iconst 0, 1) := by decide +kernel
theorem dX8_open_35 : decode cX8_open 35 = .ok (.putfield 36, 3) := by decide +kernel
theorem dX8_open_38 : decode cX8_open 38 = .ok (.iconst 1, 1) := by decide +kernel
theorem dX8_open_39 : decode cX8_open 39 = .ok (.istore_n 3, 1) := by decide +kernel
theorem dX8_open_40 : decode cX8_open 40 = .ok (.iconst 0, 1) := by decide +kernel
theorem dX8_open_41 : decode cX8_open 41 = .ok (.istore 4, 2) := by decide +kernel
theorem dX8_open_43 : decode cX8_open 43 = .ok (.iload 4, 2) := by decide +kernel
theorem dX8_open_45 : decode cX8_open 45 = .ok (.sipush 1601, 3) := by decide +kernel
theorem dX8_open_48 : decode cX8_open 48 = .ok (.if_icmp .ge 18, 3) := by decide +kernel
theorem dX8_open_51 : decode cX8_open 51 = .ok (.iload_n 3, 1) := by decide +kernel
theorem dX8_open_52 : decode cX8_open 52 = .ok (.ifCond .eq 14, 3) := by decide +kernel
theorem dX8_open_55 : decode cX8_open 55 = .ok (.aload_n 0, 1) := by decide +kernel
theorem dX8_open_56 : decode cX8_open 56 = .ok (.invokevirtual 83, 3) := by decide +kernel
theorem dX8_open_59 : decode cX8_open 59 = .ok (.istore_n 3, 1) := by decide +kernel
theorem dX8_open_60 : decode cX8_open 60 = .ok (.iinc 4 1, 3) := by decide +kernel
theorem dX8_open_63 : decode cX8_open 63 = .ok (.goto (-20), 3) := by decide +kernel
theorem dX8_open_66 : decode cX8_open 66 = .ok (.aload_n 0, 1) := by decide +kernel
theorem dX8_open_67 : decode cX8_open 67 = .ok (.iconst (-1), 1) := by decide +kernel
theorem dX8_open_68 : decode cX8_open 68 = .ok (.putfield 39, 3) := by decide +kernel
theorem dX8_open_71 : decode cX8_open 71 = .ok (.aload_n 0, 1) := by decide +kernel
theorem dX8_open_72 : decode cX8_open 72 = .ok (.invokevirtual 87, 3) := by decide +kernel
theorem dX8_open_75 : decode cX8_open 75 = .ok (.return_, 1) := by decide +kernel
theorem dX8_step_0 : decode cX8_step 0 = .ok (.aload_n 0, 1) := by decide +kernel
theorem dX8_step_1 : decode cX8_step 1 = .ok (.getfield 39, 3) := by decide +kernel
theorem dX8_step_4 : decode cX8_step 4 = .ok (.iconst 1, 1) := by decide +kernel
theorem dX8_step_5 : decode cX8_step 5 = .ok (.iadd, 1) := by decide +kernel
theorem dX8_step_6 : decode cX8_step 6 = .ok (.aload_n 0, 1) := by decide +kernel
theorem dX8_step_7 : decode cX8_step 7 = .ok (.getfield 36, 3) := by decide +kernel
theorem dX8_step_10 : decode cX8_step 10 = .ok (.if_icmp .ge 13, 3) := by decide +kernel
theorem dX8_step_13 : decode cX8_step 13 = .ok (.aload_n 0, 1) := by decide +kernel
theorem dX8_step_14 : decode cX8_step 14 = .ok (.dup, 1) := by decide +kernel
theorem dX8_step_15 : decode cX8_step 15 = .ok (.getfield 39, 3) := by decide +kernel
theorem dX8_step_18 : decode cX8_step 18 = .ok (.iconst 1, 1) := by decide +kernel
theorem dX8_step_19 : decode cX8_step 19 = .ok (.iadd, 1) := by decide +kernel
theorem dX8_step_20 : decode cX8_step 20 = .ok (.putfield 39, 3) := by decide +kernel
theorem dX8_step_23 : decode cX8_step 23 = .ok (.aload_n 0, 1) := by decide +kernel
theorem dX8_step_24 : decode cX8_step 24 = .ok (.getfield 39, 3) := by decide +kernel
theorem dX8_step_27 : decode cX8_step 27 = .ok (.ifCond .lt 53, 3) := by decide +kernel
theorem dX8_step_30 : decode cX8_step 30 = .ok (.aload_n 0, 1) := by decide +kernel
theorem dX8_step_31 : decode cX8_step 31 = .ok (.getfield 39, 3) := by decide +kernel
theorem dX8_step_34 : decode cX8_step 34 = .ok (.sipush 1601, 3) := by decide +kernel
theorem dX8_step_37 : decode cX8_step 37 = .ok (.if_icmp .ge 43, 3) := by decide +kernel
theorem dX8_step_40 : decode cX8_step 40 = .ok (.aload_n 0, 1) := by decide +kernel
theorem dX8_step_41 : decode cX8_step 41 = .ok (.aload_n 0, 1) := by decide +kernel
theorem dX8_step_42 : decode cX8_step 42 = .ok (.getfield 15, 3) := by decide +kernel
theorem dX8_step_45 : decode cX8_step 45 = .ok (.aload_n 0, 1) := by decide +kernel
theorem dX8_step_46 : decode cX8_step 46 = .ok (.getfield 39, 3) := by decide +kernel
theorem dX8_step_49 : decode cX8_step 49 = .ok (.iaload, 1) := by decide +kernel
theorem dX8_step_50 : decode cX8_step 50 = .ok (.putfield 42, 3) := by decide +kernel
theorem dX8_step_53 : decode cX8_step 53 = .ok (.aload_n 0, 1) := by decide +kernel
theorem dX8_step_54 : decode cX8_step 54 = .ok (.aload_n 0, 1) := by decide +kernel
theorem dX8_step_55 : decode cX8_step 55 = .ok (.getfield 22, 3) := by decide +kernel
theorem dX8_step_58 : decode cX8_step 58 = .ok (.aload_n 0, 1) := by decide +kernel
theorem dX8_step_59 : decode cX8_step 59 = .ok (.getfield 39, 3) := by decide +kernel
theorem dX8_step_62 : decode cX8_step 62 = .ok (.laload, 1) := by decide +kernel
theorem dX8_step_63 : decode cX8_step 63 = .ok (.putfield 48, 3) := by decide +kernel
theorem dX8_step_66 : decode cX8_step 66 = .ok (.aload_n 0, 1) := by decide +kernel
theorem dX8_step_67 : decode cX8_step 67 = .ok (.aload_n 0, 1) := by decide +kernel
theorem dX8_step_68 : decode cX8_step 68 = .ok (.getfield 22, 3) := by decide +kernel
theorem dX8_step_71 : decode cX8_step 71 = .ok (.aload_n 0, 1) := by decide +kernel
theorem dX8_step_72 : decode cX8_step 72 = .ok (.getfield 39, 3) := by decide +kernel
theorem dX8_step_75 : decode cX8_step 75 = .ok (.laload, 1) := by decide +kernel
theorem dX8_step_76 : decode cX8_step 76 = .ok (.l2i, 1) := by decide +kernel
theorem dX8_step_77 : decode cX8_step 77 = .ok (.putfield 45, 3) := by decide +kernel
theorem dX8_step_80 : decode cX8_step 80 = .ok (.return_, 1) := by decide +kernel
theorem dX8_readToken_0 : decode cX8_readToken 0 = .ok (.aload_n 0, 1) := by decide +kernel
theorem dX8_readToken_1 : decode cX8_readToken 1 = .ok (.getfield 33, 3) := by decide +kernel
theorem dX8_readToken_4 : decode cX8_readToken 4 = .ok (.istore_n 1, 1) := by decide +kernel
theorem dX8_readToken_5 : decode cX8_readToken 5 = .ok (.iload_n 1, 1) := by decide +kernel
theorem dX8_readToken_6 : decode cX8_readToken 6 = .ok (.aload_n 0, 1) := by decide +kernel
theorem dX8_readToken_7 : decode cX8_readToken 7 = .ok (.getfield 25, 3) := by decide +kernel
theorem dX8_readToken_10 : decode cX8_readToken 10 = .ok (.if_icmp .ge 27, 3) := by decide +kernel
theorem dX8_readToken_13 : decode cX8_readToken 13 = .ok (.aload_n 0, 1) := by decide +kernel
theorem dX8_readToken_14 : decode cX8_readToken 14 = .ok (.iload_n 1, 1) := by decide +kernel
theorem dX8_readToken_15 : decode cX8_readToken 15 = .ok (.invokevirtual 90, 3) := by decide +kernel
theorem dX8_readToken_18 : decode cX8_readToken 18 = .ok (.invokestatic 94, 3) := by decide +kernel
theorem dX8_readToken_21 : decode cX8_readToken 21 = .ok (.ifCond .eq 16, 3) := by decide +kernel
theorem dX8_readToken_24 : decode cX8_readToken 24 = .ok (.aload_n 0, 1) := by decide +kernel
theorem dX8_readToken_25 : decode cX8_readToken 25 = .ok (.iload_n 1, 1) := by decide +kernel
theorem dX8_readToken_26 : decode cX8_readToken 26 = .ok (.iconst 1, 1) := by decide +kernel
theorem dX8_readToken_27 : decode cX8_readToken 27 = .ok (.iadd, 1) := by decide +kernel
theorem dX8_readToken_28 : decode cX8_readToken 28 = .ok (.putfield 33, 3) := by decide +kernel
theorem dX8_readToken_31 : decode cX8_readToken 31 = .ok (.iinc 1 1, 3) := by decide +kernel
theorem dX8_readToken_34 : decode cX8_readToken 34 = .ok (.goto (-29), 3) := by decide +kernel
theorem dX8_readToken_37 : decode cX8_readToken 37 = .ok (.aload_n 0, 1) := by decide +kernel
theorem dX8_readToken_38 : decode cX8_readToken 38 = .ok (.getfield 36, 3) := by decide +kernel
theorem dX8_readToken_41 : decode cX8_readToken 41 = .ok (.sipush 1601, 3) := by decide +kernel
theorem dX8_readToken_44 : decode cX8_readToken 44 = .ok (.if_icmp .lt 5, 3) := by decide +kernel
theorem dX8_readToken_47 : decode cX8_readToken 47 = .ok (.iconst 0, 1) := by decide +kernel
theorem dX8_readToken_48 : decode cX8_readToken 48 = .ok (.ireturn, 1) := by decide +kernel
theorem dX8_readToken_49 : decode cX8_readToken 49 = .ok (.aload_n 0, 1) := by decide +kernel
theorem dX8_readToken_50 : decode cX8_readToken 50 = .ok (.getfield 19, 3) := by decide +kernel
theorem dX8_readToken_53 : decode cX8_readToken 53 = .ok (.aload_n 0, 1) := by decide +kernel
theorem dX8_readToken_54 : decode cX8_readToken 54 = .ok (.getfield 36, 3) := by decide +kernel
theorem dX8_readToken_57 : decode cX8_readToken 57 = .ok (.aload_n 0, 1) := by decide +kernel
theorem dX8_readToken_58 : decode cX8_readToken 58 = .ok (.getfield 33, 3) := by decide +kernel
theorem dX8_readToken_61 : decode cX8_readToken 61 = .ok (.iastore, 1) := by decide +kernel
theorem dX8_readToken_62 : decode cX8_readToken 62 = .ok (.aload_n 0, 1) := by decide +kernel
theorem dX8_readToken_63 : decode cX8_readToken 63 = .ok (.getfield 22, 3) := by decide +kernel
theorem dX8_readToken_66 : decode cX8_readToken 66 = .ok (.aload_n 0, 1) := by decide +kernel
theorem dX8_readToken_67 : decode cX8_readToken 67 = .ok (.getfield 36, 3) := by decide +kernel
theorem dX8_readToken_70 : decode cX8_readToken 70 = .ok (.lconst 0, 1) := by decide +kernel
theorem dX8_readToken_71 : decode cX8_readToken 71 = .ok (.lastore, 1) := by decide +kernel
theorem dX8_readToken_72 : decode cX8_readToken 72 = .ok (.aload_n 0, 1) := by decide +kernel
theorem dX8_readToken_73 : decode cX8_readToken 73 = .ok (.aload_n 0, 1) := by decide +kernel
theorem dX8_readToken_74 : decode cX8_readToken 74 = .ok (.aload_n 0, 1) := by decide +kernel
theorem dX8_readToken_75 : decode cX8_readToken 75 = .ok (.getfield 33, 3) := by decide +kernel
theorem dX8_readToken_78 : decode cX8_readToken 78 = .ok (.invokevirtual 90, 3) := by decide +kernel
theorem dX8_readToken_81 : decode cX8_readToken 81 = .ok (.invokevirtual 98, 3) := by decide +kernel
theorem dX8_readToken_84 : decode cX8_readToken 84 = .ok (.istore_n 1, 1) := by decide +kernel
theorem dX8_readToken_85 : decode cX8_readToken 85 = .ok (.aload_n 0, 1) := by decide +kernel
theorem dX8_readToken_86 : decode cX8_readToken 86 = .ok (.getfield 15, 3) := by decide +kernel
theorem dX8_readToken_89 : decode cX8_readToken 89 = .ok (.aload_n 0, 1) := by decide +kernel
theorem dX8_readToken_90 : decode cX8_readToken 90 = .ok (.getfield 36, 3) := by decide +kernel
theorem dX8_readToken_93 : decode cX8_readToken 93 = .ok (.iload_n 1, 1) := by decide +kernel
theorem dX8_readToken_94 : decode cX8_readToken 94 = .ok (.iastore, 1) := by decide +kernel
theorem dX8_readToken_95 : decode cX8_readToken 95 = .ok (.aload_n 0, 1) := by decide +kernel
theorem dX8_readToken_96 : decode cX8_readToken 96 = .ok (.dup, 1) := by decide +kernel
theorem dX8_readToken_97 : decode cX8_readToken 97 = .ok (.getfield 36, 3) := by decide +kernel
theorem dX8_readToken_100 : decode cX8_readToken 100 = .ok (.iconst 1, 1) := by decide +kernel
theorem dX8_readToken_101 : decode cX8_readToken 101 = .ok (.iadd, 1) := by decide +kernel
theorem dX8_readToken_102 : decode cX8_readToken 102 = .ok (.putfield 36, 3) := by decide +kernel
theorem dX8_readToken_105 : decode cX8_readToken 105 = .ok (.iload_n 1, 1) := by decide +kernel
theorem dX8_readToken_106 : decode cX8_readToken 106 = .ok (.bipush 26, 2) := by decide +kernel
theorem dX8_readToken_108 : decode cX8_readToken 108 = .ok (.if_icmp .eq 13, 3) := by decide +kernel
theorem dX8_readToken_111 : decode cX8_readToken 111 = .ok (.iload_n 1, 1) := by decide +kernel
theorem dX8_readToken_112 : decode cX8_readToken 112 = .ok (.bipush 27, 2) := by decide +kernel
theorem dX8_readToken_114 : decode cX8_readToken 114 = .ok (.if_icmp .eq 7, 3) := by decide +kernel
theorem dX8_readToken_117 : decode cX8_readToken 117 = .ok (.iconst 1, 1) := by decide +kernel
theorem dX8_readToken_118 : decode cX8_readToken 118 = .ok (.goto 4, 3) := by decide +kernel
theorem dX8_readToken_121 : decode cX8_readToken 121 = .ok (.iconst 0, 1) := by decide +kernel
theorem dX8_readToken_122 : decode cX8_readToken 122 = .ok (.ireturn, 1) := by decide +kernel
theorem dX8_readKind_0 : decode cX8_readKind 0 = .ok (.aload_n 0, 1) := by decide +kernel
theorem dX8_readKind_1 : decode cX8_readKind 1 = .ok (.getfield 33, 3) := by decide +kernel
theorem dX8_readKind_4 : decode cX8_readKind 4 = .ok (.aload_n 0, 1) := by decide +kernel
theorem dX8_readKind_5 : decode cX8_readKind 5 = .ok (.getfield 25, 3) := by decide +kernel
theorem dX8_readKind_8 : decode cX8_readKind 8 = .ok (.if_icmp .lt 6, 3) := by decide +kernel
theorem dX8_readKind_11 : decode cX8_readKind 11 = .ok (.bipush 26, 2) := by decide +kernel
theorem dX8_readKind_13 : decode cX8_readKind 13 = .ok (.ireturn, 1) := by decide +kernel
theorem dX8_readKind_14 : decode cX8_readKind 14 = .ok (.iload_n 1, 1) := by decide +kernel
theorem dX8_readKind_15 : decode cX8_readKind 15 = .ok (.invokestatic 101, 3) := by decide +kernel
theorem dX8_readKind_18 : decode cX8_readKind 18 = .ok (.ifCond .eq 8, 3) := by decide +kernel
theorem dX8_readKind_21 : decode cX8_readKind 21 = .ok (.aload_n 0, 1) := by decide +kernel
theorem dX8_readKind_22 : decode cX8_readKind 22 = .ok (.invokevirtual 104, 3) := by decide +kernel
theorem dX8_readKind_25 : decode cX8_readKind 25 = .ok (.ireturn, 1) := by decide +kernel
theorem dX8_readKind_26 : decode cX8_readKind 26 = .ok (.iload_n 1, 1) := by decide +kernel
theorem dX8_readKind_27 : decode cX8_readKind 27 = .ok (.invokestatic 107, 3) := by decide +kernel
theorem dX8_readKind_30 : decode cX8_readKind 30 = .ok (.ifCond .eq 8, 3) := by decide +kernel
theorem dX8_readKind_33 : decode cX8_readKind 33 = .ok (.aload_n 0, 1) := by decide +kernel
theorem dX8_readKind_34 : decode cX8_readKind 34 = .ok (.invokevirtual 110, 3) := by decide +kernel
theorem dX8_readKind_37 : decode cX8_readKind 37 = .ok (.ireturn, 1) := by decide +kernel
theorem dX8_readKind_38 : decode cX8_readKind 38 = .ok (.aload_n 0, 1) := by decide +kernel
theorem dX8_readKind_39 : decode cX8_readKind 39 = .ok (.dup, 1) := by decide +kernel
theorem dX8_readKind_40 : decode cX8_readKind 40 = .ok (.getfield 33, 3) := by decide +kernel
theorem dX8_readKind_43 : decode cX8_readKind 43 = .ok (.iconst 1, 1) := by decide +kernel
theorem dX8_readKind_44 : decode cX8_readKind 44 = .ok (.iadd, 1) := by decide +kernel
theorem dX8_readKind_45 : decode cX8_readKind 45 = .ok (.putfield 33, 3) := by decide +kernel
theorem dX8_readKind_48 : decode cX8_readKind 48 = .ok (.aload_n 0, 1) := by decide +kernel
theorem dX8_readKind_49 : decode cX8_readKind 49 = .ok (.iload_n 1, 1) := by decide +kernel
theorem dX8_readKind_50 : decode cX8_readKind 50 = .ok (.invokevirtual 113, 3) := by decide +kernel
theorem dX8_readKind_53 : decode cX8_readKind 53 = .ok (.ifCond .eq 7, 3) := by decide +kernel
theorem dX8_readKind_56 : decode cX8_readKind 56 = .ok (.iload_n 1, 1) := by decide +kernel
theorem dX8_readKind_57 : decode cX8_readKind 57 = .ok (.goto 5, 3) := by decide +kernel
theorem dX8_readKind_60 : decode cX8_readKind 60 = .ok (.bipush 27, 2) := by decide +kernel
theorem dX8_readKind_62 : decode cX8_readKind 62 = .ok (.ireturn, 1) := by decide +kernel
theorem dX8_readWord_0 : decode cX8_readWord 0 = .ok (.aload_n 0, 1) := by decide +kernel
theorem dX8_readWord_1 : decode cX8_readWord 1 = .ok (.getfield 33, 3) := by decide +kernel
theorem dX8_readWord_4 : decode cX8_readWord 4 = .ok (.istore_n 1, 1) := by decide +kernel
theorem dX8_readWord_5 : decode cX8_readWord 5 = .ok (.lconst 0, 1) := by decide +kernel
theorem dX8_readWord_6 : decode cX8_readWord 6 = .ok (.lstore_n 2, 1) := by decide +kernel
theorem dX8_readWord_7 : decode cX8_readWord 7 = .ok (.iload_n 1, 1) := by decide +kernel
theorem dX8_readWord_8 : decode cX8_readWord 8 = .ok (.istore 4, 2) := by decide +kernel
theorem dX8_readWord_10 : decode cX8_readWord 10 = .ok (.iload 4, 2) := by decide +kernel
theorem dX8_readWord_12 : decode cX8_readWord 12 = .ok (.aload_n 0, 1) := by decide +kernel
theorem dX8_readWord_13 : decode cX8_readWord 13 = .ok (.getfield 25, 3) := by decide +kernel
theorem dX8_readWord_16 : decode cX8_readWord 16 = .ok (.if_icmp .ge 40, 3) := by decide +kernel
theorem dX8_readWord_19 : decode cX8_readWord 19 = .ok (.aload_n 0, 1) := by decide +kernel
theorem dX8_readWord_20 : decode cX8_readWord 20 = .ok (.iload 4, 2) := by decide +kernel
theorem dX8_readWord_22 : decode cX8_readWord 22 = .ok (.invokevirtual 90, 3) := by decide +kernel
theorem dX8_readWord_25 : decode cX8_readWord 25 = .ok (.invokestatic 101, 3) := by decide +kernel
theorem dX8_readWord_28 : decode cX8_readWord 28 = .ok (.ifCond .eq 28, 3) := by decide +kernel
theorem dX8_readWord_31 : decode cX8_readWord 31 = .ok (.lload_n 2, 1) := by decide +kernel
theorem dX8_readWord_32 : decode cX8_readWord 32 = .ok (.aload_n 0, 1) := by decide +kernel
theorem dX8_readWord_33 : decode cX8_readWord 33 = .ok (.iload 4, 2) := by decide +kernel
theorem dX8_readWord_35 : decode cX8_readWord 35 = .ok (.invokevirtual 90, 3) := by decide +kernel
theorem dX8_readWord_38 : decode cX8_readWord 38 = .ok (.invokestatic 73, 3) := by decide +kernel
theorem dX8_readWord_41 : decode cX8_readWord 41 = .ok (.lstore_n 2, 1) := by decide +kernel
theorem dX8_readWord_42 : decode cX8_readWord 42 = .ok (.aload_n 0, 1) := by decide +kernel
theorem dX8_readWord_43 : decode cX8_readWord 43 = .ok (.iload 4, 2) := by decide +kernel
theorem dX8_readWord_45 : decode cX8_readWord 45 = .ok (.iconst 1, 1) := by decide +kernel
theorem dX8_readWord_46 : decode cX8_readWord 46 = .ok (.iadd, 1) := by decide +kernel
theorem dX8_readWord_47 : decode cX8_readWord 47 = .ok (.putfield 33, 3) := by decide +kernel
theorem dX8_readWord_50 : decode cX8_readWord 50 = .ok (.iinc 4 1, 3) := by decide +kernel
theorem dX8_readWord_53 : decode cX8_readWord 53 = .ok (.goto (-43), 3) := by decide +kernel
theorem dX8_readWord_56 : decode cX8_readWord 56 = .ok (.aload_n 0, 1) := by decide +kernel
theorem dX8_readWord_57 : decode cX8_readWord 57 = .ok (.getfield 33, 3) := by decide +kernel
theorem dX8_readWord_60 : decode cX8_readWord 60 = .ok (.iload_n 1, 1) := by decide +kernel
theorem dX8_readWord_61 : decode cX8_readWord 61 = .ok (.isub, 1) := by decide +kernel
theorem dX8_readWord_62 : decode cX8_readWord 62 = .ok (.bipush 8, 2) := by decide +kernel
theorem dX8_readWord_64 : decode cX8_readWord 64 = .ok (.if_icmp .le 6, 3) := by decide +kernel
theorem dX8_readWord_67 : decode cX8_readWord 67 = .ok (.bipush 27, 2) := by decide +kernel
theorem dX8_readWord_69 : decode cX8_readWord 69 = .ok (.ireturn, 1) := by decide +kernel
theorem dX8_readWord_70 : decode cX8_readWord 70 = .ok (.aload_n 0, 1) := by decide +kernel
theorem dX8_readWord_71 : decode cX8_readWord 71 = .ok (.getfield 22, 3) := by decide +kernel
theorem dX8_readWord_74 : decode cX8_readWord 74 = .ok (.aload_n 0, 1) := by decide +kernel
theorem dX8_readWord_75 : decode cX8_readWord 75 = .ok (.getfield 36, 3) := by decide +kernel
theorem dX8_readWord_78 : decode cX8_readWord 78 = .ok (.lload_n 2, 1) := by decide +kernel
theorem dX8_readWord_79 : decode cX8_readWord 79 = .ok (.lastore, 1) := by decide +kernel
theorem dX8_readWord_80 : decode cX8_readWord 80 = .ok (.iconst 0, 1) := by decide +kernel
theorem dX8_readWord_81 : decode cX8_readWord 81 = .ok (.istore 4, 2) := by decide +kernel
theorem dX8_readWord_83 : decode cX8_readWord 83 = .ok (.iload 4, 2) := by decide +kernel
theorem dX8_readWord_85 : decode cX8_readWord 85 = .ok (.bipush 24, 2) := by decide +kernel
theorem dX8_readWord_87 : decode cX8_readWord 87 = .ok (.if_icmp .ge 24, 3) := by decide +kernel
theorem dX8_readWord_90 : decode cX8_readWord 90 = .ok (.aload_n 0, 1) := by decide +kernel
theorem dX8_readWord_91 : decode cX8_readWord 91 = .ok (.getfield 11, 3) := by decide +kernel
theorem dX8_readWord_94 : decode cX8_readWord 94 = .ok (.iload 4, 2) := by decide +kernel
theorem dX8_readWord_96 : decode cX8_readWord 96 = .ok (.laload, 1) := by decide +kernel
theorem dX8_readWord_97 : decode cX8_readWord 97 = .ok (.lload_n 2, 1) := by decide +kernel
theorem dX8_readWord_98 : decode cX8_readWord 98 = .ok (.lcmp, 1) := by decide +kernel
theorem dX8_readWord_99 : decode cX8_readWord 99 = .ok (.ifCond .ne 6, 3) := by decide +kernel
theorem dX8_readWord_102 : decode cX8_readWord 102 = .ok (.iload 4, 2) := by decide +kernel
theorem dX8_readWord_104 : decode cX8_readWord 104 = .ok (.ireturn, 1) := by decide +kernel
theorem dX8_readWord_105 : decode cX8_readWord 105 = .ok (.iinc 4 1, 3) := by decide +kernel
theorem dX8_readWord_108 : decode cX8_readWord 108 = .ok (.goto (-25), 3) := by decide +kernel
theorem dX8_readWord_111 : decode cX8_readWord 111 = .ok (.bipush 24, 2) := by decide +kernel
theorem dX8_readWord_113 : decode cX8_readWord 113 = .ok (.ireturn, 1) := by decide +kernel
theorem dX8_readNumber_0 : decode cX8_readNumber 0 = .ok (.aload_n 0, 1) := by decide +kernel
theorem dX8_readNumber_1 : decode cX8_readNumber 1 = .ok (.getfield 33, 3) := by decide +kernel
theorem dX8_readNumber_4 : decode cX8_readNumber 4 = .ok (.istore_n 1, 1) := by decide +kernel
theorem dX8_readNumber_5 : decode cX8_readNumber 5 = .ok (.iconst 0, 1) := by decide +kernel
theorem dX8_readNumber_6 : decode cX8_readNumber 6 = .ok (.istore_n 2, 1) := by decide +kernel
theorem dX8_readNumber_7 : decode cX8_readNumber 7 = .ok (.iload_n 1, 1) := by decide +kernel
theorem dX8_readNumber_8 : decode cX8_readNumber 8 = .ok (.istore_n 3, 1) := by decide +kernel
theorem dX8_readNumber_9 : decode cX8_readNumber 9 = .ok (.iload_n 3, 1) := by decide +kernel
theorem dX8_readNumber_10 : decode cX8_readNumber 10 = .ok (.aload_n 0, 1) := by decide +kernel
theorem dX8_readNumber_11 : decode cX8_readNumber 11 = .ok (.getfield 25, 3) := by decide +kernel
theorem dX8_readNumber_14 : decode cX8_readNumber 14 = .ok (.if_icmp .ge 41, 3) := by decide +kernel
theorem dX8_readNumber_17 : decode cX8_readNumber 17 = .ok (.aload_n 0, 1) := by decide +kernel
theorem dX8_readNumber_18 : decode cX8_readNumber 18 = .ok (.iload_n 3, 1) := by decide +kernel
theorem dX8_readNumber_19 : decode cX8_readNumber 19 = .ok (.invokevirtual 90, 3) := by decide +kernel
theorem dX8_readNumber_22 : decode cX8_readNumber 22 = .ok (.invokestatic 107, 3) := by decide +kernel
theorem dX8_readNumber_25 : decode cX8_readNumber 25 = .ok (.ifCond .eq 30, 3) := by decide +kernel
theorem dX8_readNumber_28 : decode cX8_readNumber 28 = .ok (.iload_n 2, 1) := by decide +kernel
theorem dX8_readNumber_29 : decode cX8_readNumber 29 = .ok (.bipush 10, 2) := by decide +kernel
theorem dX8_readNumber_31 : decode cX8_readNumber 31 = .ok (.imul, 1) := by decide +kernel
theorem dX8_readNumber_32 : decode cX8_readNumber 32 = .ok (.aload_n 0, 1) := by decide +kernel
theorem dX8_readNumber_33 : decode cX8_readNumber 33 = .ok (.iload_n 3, 1) := by decide +kernel
theorem dX8_readNumber_34 : decode cX8_readNumber 34 = .ok (.invokevirtual 90, 3) := by decide +kernel
theorem dX8_readNumber_37 : decode cX8_readNumber 37 = .ok (.bipush 48, 2) := by decide +kernel
theorem dX8_readNumber_39 : decode cX8_readNumber 39 = .ok (.isub, 1) := by decide +kernel
theorem dX8_readNumber_40 : decode cX8_readNumber 40 = .ok (.iadd, 1) := by decide +kernel
theorem dX8_readNumber_41 : decode cX8_readNumber 41 = .ok (.istore_n 2, 1) := by decide +kernel
theorem dX8_readNumber_42 : decode cX8_readNumber 42 = .ok (.aload_n 0, 1) := by decide +kernel
theorem dX8_readNumber_43 : decode cX8_readNumber 43 = .ok (.iload_n 3, 1) := by decide +kernel
theorem dX8_readNumber_44 : decode cX8_readNumber 44 = .ok (.iconst 1, 1) := by decide +kernel
theorem dX8_readNumber_45 : decode cX8_readNumber 45 = .ok (.iadd, 1) := by decide +kernel
theorem dX8_readNumber_46 : decode cX8_readNumber 46 = .ok (.putfield 33, 3) := by decide +kernel
theorem dX8_readNumber_49 : decode cX8_readNumber 49 = .ok (.iinc 3 1, 3) := by decide +kernel
theorem dX8_readNumber_52 : decode cX8_readNumber 52 = .ok (.goto (-43), 3) := by decide +kernel
theorem dX8_readNumber_55 : decode cX8_readNumber 55 = .ok (.aload_n 0, 1) := by decide +kernel
theorem dX8_readNumber_56 : decode cX8_readNumber 56 = .ok (.getfield 22, 3) := by decide +kernel
theorem dX8_readNumber_59 : decode cX8_readNumber 59 = .ok (.aload_n 0, 1) := by decide +kernel
theorem dX8_readNumber_60 : decode cX8_readNumber 60 = .ok (.getfield 36, 3) := by decide +kernel
theorem dX8_readNumber_63 : decode cX8_readNumber 63 = .ok (.iload_n 2, 1) := by decide +kernel
theorem dX8_readNumber_64 : decode cX8_readNumber 64 = .ok (.i2l, 1) := by decide +kernel
theorem dX8_readNumber_65 : decode cX8_readNumber 65 = .ok (.lastore, 1) := by decide +kernel
theorem dX8_readNumber_66 : decode cX8_readNumber 66 = .ok (.aload_n 0, 1) := by decide +kernel
theorem dX8_readNumber_67 : decode cX8_readNumber 67 = .ok (.getfield 33, 3) := by decide +kernel
theorem dX8_readNumber_70 : decode cX8_readNumber 70 = .ok (.iload_n 1, 1) := by decide +kernel
theorem dX8_readNumber_71 : decode cX8_readNumber 71 = .ok (.isub, 1) := by decide +kernel
theorem dX8_readNumber_72 : decode cX8_readNumber 72 = .ok (.iconst 4, 1) := by decide +kernel
theorem dX8_readNumber_73 : decode cX8_readNumber 73 = .ok (.if_icmp .gt 17, 3) := by decide +kernel
theorem dX8_readNumber_76 : decode cX8_readNumber 76 = .ok (.aload_n 0, 1) := by decide +kernel
theorem dX8_readNumber_77 : decode cX8_readNumber 77 = .ok (.aload_n 0, 1) := by decide +kernel
theorem dX8_readNumber_78 : decode cX8_readNumber 78 = .ok (.getfield 33, 3) := by decide +kernel
theorem dX8_readNumber_81 : decode cX8_readNumber 81 = .ok (.invokevirtual 90, 3) := by decide +kernel
theorem dX8_readNumber_84 : decode cX8_readNumber 84 = .ok (.invokestatic 101, 3) := by decide +kernel
theorem dX8_readNumber_87 : decode cX8_readNumber 87 = .ok (.ifCond .eq 8, 3) := by decide +kernel
theorem dX8_readNumber_90 : decode cX8_readNumber 90 = .ok (.bipush 27, 2) := by decide +kernel
theorem dX8_readNumber_92 : decode cX8_readNumber 92 = .ok (.goto 5, 3) := by decide +kernel
theorem dX8_readNumber_95 : decode cX8_readNumber 95 = .ok (.bipush 25, 2) := by decide +kernel
theorem dX8_readNumber_97 : decode cX8_readNumber 97 = .ok (.ireturn, 1) := by decide +kernel
theorem dX8_byteAt_0 : decode cX8_byteAt 0 = .ok (.iload_n 1, 1) := by decide +kernel
theorem dX8_byteAt_1 : decode cX8_byteAt 1 = .ok (.ifCond .lt 33, 3) := by decide +kernel
theorem dX8_byteAt_4 : decode cX8_byteAt 4 = .ok (.iload_n 1, 1) := by decide +kernel
theorem dX8_byteAt_5 : decode cX8_byteAt 5 = .ok (.aload_n 0, 1) := by decide +kernel
theorem dX8_byteAt_6 : decode cX8_byteAt 6 = .ok (.getfield 25, 3) := by decide +kernel
theorem dX8_byteAt_9 : decode cX8_byteAt 9 = .ok (.if_icmp .ge 25, 3) := by decide +kernel
theorem dX8_byteAt_12 : decode cX8_byteAt 12 = .ok (.iload_n 1, 1) := by decide +kernel
theorem dX8_byteAt_13 : decode cX8_byteAt 13 = .ok (.aload_n 0, 1) := by decide +kernel
theorem dX8_byteAt_14 : decode cX8_byteAt 14 = .ok (.getfield 58, 3) := by decide +kernel
theorem dX8_byteAt_17 : decode cX8_byteAt 17 = .ok (.arraylength, 1) := by decide +kernel
theorem dX8_byteAt_18 : decode cX8_byteAt 18 = .ok (.if_icmp .ge 16, 3) := by decide +kernel
theorem dX8_byteAt_21 : decode cX8_byteAt 21 = .ok (.aload_n 0, 1) := by decide +kernel
theorem dX8_byteAt_22 : decode cX8_byteAt 22 = .ok (.getfield 58, 3) := by decide +kernel
theorem dX8_byteAt_25 : decode cX8_byteAt 25 = .ok (.iload_n 1, 1) := by decide +kernel
theorem dX8_byteAt_26 : decode cX8_byteAt 26 = .ok (.baload, 1) := by decide +kernel
theorem dX8_byteAt_27 : decode cX8_byteAt 27 = .ok (.sipush 255, 3) := by decide +kernel
theorem dX8_byteAt_30 : decode cX8_byteAt 30 = .ok (.iand, 1) := by decide +kernel
theorem dX8_byteAt_31 : decode cX8_byteAt 31 = .ok (.goto 4, 3) := by decide +kernel
theorem dX8_byteAt_34 : decode cX8_byteAt 34 = .ok (.iconst 0, 1) := by decide +kernel
theorem dX8_byteAt_35 : decode cX8_byteAt 35 = .ok (.ireturn, 1) := by decide +kernel
theorem dX8_withLetter_0 : decode cX8_withLetter 0 = .ok (.lload_n 0, 1) := by decide +kernel
theorem dX8_withLetter_1 : decode cX8_withLetter 1 = .ok (.ldc2_w 116, 3) := by decide +kernel
theorem dX8_withLetter_4 : decode cX8_withLetter 4 = .ok (.lmul, 1) := by decide +kernel
theorem dX8_withLetter_5 : decode cX8_withLetter 5 = .ok (.iload_n 2, 1) := by decide +kernel
theorem dX8_withLetter_6 : decode cX8_withLetter 6 = .ok (.bipush 97, 2) := by decide +kernel
theorem dX8_withLetter_8 : decode cX8_withLetter 8 = .ok (.isub, 1) := by decide +kernel
theorem dX8_withLetter_9 : decode cX8_withLetter 9 = .ok (.iconst 1, 1) := by decide +kernel
theorem dX8_withLetter_10 : decode cX8_withLetter 10 = .ok (.iadd, 1) := by decide +kernel
theorem dX8_withLetter_11 : decode cX8_withLetter 11 = .ok (.i2l, 1) := by decide +kernel
theorem dX8_withLetter_12 : decode cX8_withLetter 12 = .ok (.ladd, 1) := by decide +kernel
theorem dX8_withLetter_13 : decode cX8_withLetter 13 = .ok (.lreturn, 1) := by decide +kernel
theorem dX8_isBlank_0 : decode cX8_isBlank 0 = .ok (.iload_n 0, 1) := by decide +kernel
theorem dX8_isBlank_1 : decode cX8_isBlank 1 = .ok (.bipush 32, 2) := by decide +kernel
theorem dX8_isBlank_3 : decode cX8_isBlank 3 = .ok (.if_icmp .eq 9, 3) := by decide +kernel
theorem dX8_isBlank_6 : decode cX8_isBlank 6 = .ok (.iload_n 0, 1) := by decide +kernel
theorem dX8_isBlank_7 : decode cX8_isBlank 7 = .ok (.bipush 10, 2) := by decide +kernel
theorem dX8_isBlank_9 : decode cX8_isBlank 9 = .ok (.if_icmp .ne 7, 3) := by decide +kernel
theorem dX8_isBlank_12 : decode cX8_isBlank 12 = .ok (.iconst 1, 1) := by decide +kernel
theorem dX8_isBlank_13 : decode cX8_isBlank 13 = .ok (.goto 4, 3) := by decide +kernel
theorem dX8_isBlank_16 : decode cX8_isBlank 16 = .ok (.iconst 0, 1) := by decide +kernel
theorem dX8_isBlank_17 : decode cX8_isBlank 17 = .ok (.ireturn, 1) := by decide +kernel
theorem dX8_isLetter_0 : decode cX8_isLetter 0 = .ok (.iload_n 0, 1) := by decide +kernel
theorem dX8_isLetter_1 : decode cX8_isLetter 1 = .ok (.bipush 97, 2) := by decide +kernel
theorem dX8_isLetter_3 : decode cX8_isLetter 3 = .ok (.if_icmp .lt 13, 3) := by decide +kernel
theorem dX8_isLetter_6 : decode cX8_isLetter 6 = .ok (.iload_n 0, 1) := by decide +kernel
theorem dX8_isLetter_7 : decode cX8_isLetter 7 = .ok (.bipush 122, 2) := by decide +kernel
theorem dX8_isLetter_9 : decode cX8_isLetter 9 = .ok (.if_icmp .gt 7, 3) := by decide +kernel
theorem dX8_isLetter_12 : decode cX8_isLetter 12 = .ok (.iconst 1, 1) := by decide +kernel
theorem dX8_isLetter_13 : decode cX8_isLetter 13 = .ok (.goto 4, 3) := by decide +kernel
theorem dX8_isLetter_16 : decode cX8_isLetter 16 = .ok (.iconst 0, 1) := by decide +kernel
theorem dX8_isLetter_17 : decode cX8_isLetter 17 = .ok (.ireturn, 1) := by decide +kernel
theorem dX8_isDigit_0 : decode cX8_isDigit 0 = .ok (.iload_n 0, 1) := by decide +kernel
theorem dX8_isDigit_1 : decode cX8_isDigit 1 = .ok (.bipush 48, 2) := by decide +kernel
theorem dX8_isDigit_3 : decode cX8_isDigit 3 = .ok (.if_icmp .lt 13, 3) := by decide +kernel
theorem dX8_isDigit_6 : decode cX8_isDigit 6 = .ok (.iload_n 0, 1) := by decide +kernel
theorem dX8_isDigit_7 : decode cX8_isDigit 7 = .ok (.bipush 57, 2) := by decide +kernel
theorem dX8_isDigit_9 : decode cX8_isDigit 9 = .ok (.if_icmp .gt 7, 3) := by decide +kernel
theorem dX8_isDigit_12 : decode cX8_isDigit 12 = .ok (.iconst 1, 1) := by decide +kernel
theorem dX8_isDigit_13 : decode cX8_isDigit 13 = .ok (.goto 4, 3) := by decide +kernel
theorem dX8_isDigit_16 : decode cX8_isDigit 16 = .ok (.iconst 0, 1) := by decide +kernel
theorem dX8_isDigit_17 : decode cX8_isDigit 17 = .ok (.ireturn, 1) := by decide +kernel
theorem dX8_isSign_0 : decode cX8_isSign 0 = .ok (.iload_n 1, 1) := by decide +kernel
theorem dX8_isSign_1 : decode cX8_isSign 1 = .ok (.tableswitch 114 40 62 #[109, 109, 109, 109, 114, 109, 114, 114, 114, 114, 114, 114, 114, 114, 114, 114, 114, 114, 114, 107, 109, 109, 109], 107) := by decide +kernel
theorem dX8_isSign_108 : decode cX8_isSign 108 = .ok (.iconst 1, 1) := by decide +kernel
theorem dX8_isSign_109 : decode cX8_isSign 109 = .ok (.ireturn, 1) := by decide +kernel
theorem dX8_isSign_110 : decode cX8_isSign 110 = .ok (.aload_n 0, 1) := by decide +kernel
theorem dX8_isSign_111 : decode cX8_isSign 111 = .ok (.getfield 29, 3) := by decide +kernel
theorem dX8_isSign_114 : decode cX8_isSign 114 = .ok (.ireturn, 1) := by decide +kernel
theorem dX8_isSign_115 : decode cX8_isSign 115 = .ok (.iconst 0, 1) := by decide +kernel
theorem dX8_isSign_116 : decode cX8_isSign 116 = .ok (.ireturn, 1) := by decide +kernel
theorem dX8_refuse_0 : decode cX8_refuse 0 = .ok (.aload_n 0, 1) := by decide +kernel
theorem dX8_refuse_1 : decode cX8_refuse 1 = .ok (.aload_n 0, 1) := by decide +kernel
theorem dX8_refuse_2 : decode cX8_refuse 2 = .ok (.getfield 42, 3) := by decide +kernel
theorem dX8_refuse_5 : decode cX8_refuse 5 = .ok (.bipush 27, 2) := by decide +kernel
theorem dX8_refuse_7 : decode cX8_refuse 7 = .ok (.if_icmp .ne 7, 3) := by decide +kernel
theorem dX8_refuse_10 : decode cX8_refuse 10 = .ok (.iconst 1, 1) := by decide +kernel
theorem dX8_refuse_11 : decode cX8_refuse 11 = .ok (.goto 4, 3) := by decide +kernel
theorem dX8_refuse_14 : decode cX8_refuse 14 = .ok (.iload_n 1, 1) := by decide +kernel
theorem dX8_refuse_15 : decode cX8_refuse 15 = .ok (.putfield 52, 3) := by decide +kernel
theorem dX8_refuse_18 : decode cX8_refuse 18 = .ok (.aload_n 0, 1) := by decide +kernel
theorem dX8_refuse_19 : decode cX8_refuse 19 = .ok (.aload_n 0, 1) := by decide +kernel
theorem dX8_refuse_20 : decode cX8_refuse 20 = .ok (.getfield 39, 3) := by decide +kernel
theorem dX8_refuse_23 : decode cX8_refuse 23 = .ok (.ifCond .lt 25, 3) := by decide +kernel
theorem dX8_refuse_26 : decode cX8_refuse 26 = .ok (.aload_n 0, 1) := by decide +kernel
theorem dX8_refuse_27 : decode cX8_refuse 27 = .ok (.getfield 39, 3) := by decide +kernel
theorem dX8_refuse_30 : decode cX8_refuse 30 = .ok (.sipush 1601, 3) := by decide +kernel
theorem dX8_refuse_33 : decode cX8_refuse 33 = .ok (.if_icmp .ge 15, 3) := by decide +kernel
theorem dX8_refuse_36 : decode cX8_refuse 36 = .ok (.aload_n 0, 1) := by decide +kernel
theorem dX8_refuse_37 : decode cX8_refuse 37 = .ok (.getfield 19, 3) := by decide +kernel
theorem dX8_refuse_40 : decode cX8_refuse 40 = .ok (.aload_n 0, 1) := by decide +kernel
theorem dX8_refuse_41 : decode cX8_refuse 41 = .ok (.getfield 39, 3) := by decide +kernel
theorem dX8_refuse_44 : decode cX8_refuse 44 = .ok (.iaload, 1) := by decide +kernel
theorem dX8_refuse_45 : decode cX8_refuse 45 = .ok (.goto 4, 3) := by decide +kernel
theorem dX8_refuse_48 : decode cX8_refuse 48 = .ok (.iconst (-1), 1) := by decide +kernel
theorem dX8_refuse_49 : decode cX8_refuse 49 = .ok (.putfield 55, 3) := by decide +kernel
theorem dX8_refuse_52 : decode cX8_refuse 52 = .ok (.iconst 0, 1) := by decide +kernel
theorem dX8_refuse_53 : decode cX8_refuse 53 = .ok (.ireturn, 1) := by decide +kernel
theorem dX8_take_0 : decode cX8_take 0 = .ok (.aload_n 0, 1) := by decide +kernel
theorem dX8_take_1 : decode cX8_take 1 = .ok (.getfield 42, 3) := by decide +kernel
theorem dX8_take_4 : decode cX8_take 4 = .ok (.iload_n 1, 1) := by decide +kernel
theorem dX8_take_5 : decode cX8_take 5 = .ok (.if_icmp .eq 9, 3) := by decide +kernel
theorem dX8_take_8 : decode cX8_take 8 = .ok (.aload_n 0, 1) := by decide +kernel
theorem dX8_take_9 : decode cX8_take 9 = .ok (.iconst 2, 1) := by decide +kernel
theorem dX8_take_10 : decode cX8_take 10 = .ok (.invokevirtual 118, 3) := by decide +kernel
theorem dX8_take_13 : decode cX8_take 13 = .ok (.ireturn, 1) := by decide +kernel
theorem dX8_take_14 : decode cX8_take 14 = .ok (.aload_n 0, 1) := by decide +kernel
theorem dX8_take_15 : decode cX8_take 15 = .ok (.invokevirtual 87, 3) := by decide +kernel
theorem dX8_take_18 : decode cX8_take 18 = .ok (.iconst 1, 1) := by decide +kernel
theorem dX8_take_19 : decode cX8_take 19 = .ok (.ireturn, 1) := by decide +kernel
theorem dX8_isNumber_0 : decode cX8_isNumber 0 = .ok (.aload_n 0, 1) := by decide +kernel
theorem dX8_isNumber_1 : decode cX8_isNumber 1 = .ok (.getfield 42, 3) := by decide +kernel
theorem dX8_isNumber_4 : decode cX8_isNumber 4 = .ok (.bipush 25, 2) := by decide +kernel
theorem dX8_isNumber_6 : decode cX8_isNumber 6 = .ok (.if_icmp .eq 9, 3) := by decide +kernel
theorem dX8_isNumber_9 : decode cX8_isNumber 9 = .ok (.aload_n 0, 1) := by decide +kernel
theorem dX8_isNumber_10 : decode cX8_isNumber 10 = .ok (.iconst 2, 1) := by decide +kernel
theorem dX8_isNumber_11 : decode cX8_isNumber 11 = .ok (.invokevirtual 118, 3) := by decide +kernel
theorem dX8_isNumber_14 : decode cX8_isNumber 14 = .ok (.ireturn, 1) := by decide +kernel
theorem dX8_isNumber_15 : decode cX8_isNumber 15 = .ok (.aload_n 0, 1) := by decide +kernel
theorem dX8_isNumber_16 : decode cX8_isNumber 16 = .ok (.getfield 45, 3) := by decide +kernel
theorem dX8_isNumber_19 : decode cX8_isNumber 19 = .ok (.iload_n 1, 1) := by decide +kernel
theorem dX8_isNumber_20 : decode cX8_isNumber 20 = .ok (.if_icmp .lt 11, 3) := by decide +kernel
theorem dX8_isNumber_23 : decode cX8_isNumber 23 = .ok (.aload_n 0, 1) := by decide +kernel
theorem dX8_isNumber_24 : decode cX8_isNumber 24 = .ok (.getfield 45, 3) := by decide +kernel
theorem dX8_isNumber_27 : decode cX8_isNumber 27 = .ok (.iload_n 2, 1) := by decide +kernel
theorem dX8_isNumber_28 : decode cX8_isNumber 28 = .ok (.if_icmp .le 11, 3) := by decide +kernel
theorem dX8_isNumber_31 : decode cX8_isNumber 31 = .ok (.aload_n 0, 1) := by decide +kernel
theorem dX8_isNumber_32 : decode cX8_isNumber 32 = .ok (.iconst 4, 1) := by decide +kernel
theorem dX8_isNumber_33 : decode cX8_isNumber 33 = .ok (.invokevirtual 118, 3) := by decide +kernel
theorem dX8_isNumber_36 : decode cX8_isNumber 36 = .ok (.ifCond .eq 7, 3) := by decide +kernel
theorem dX8_isNumber_39 : decode cX8_isNumber 39 = .ok (.iconst 1, 1) := by decide +kernel
theorem dX8_isNumber_40 : decode cX8_isNumber 40 = .ok (.goto 4, 3) := by decide +kernel
theorem dX8_isNumber_43 : decode cX8_isNumber 43 = .ok (.iconst 0, 1) := by decide +kernel
theorem dX8_isNumber_44 : decode cX8_isNumber 44 = .ok (.ireturn, 1) := by decide +kernel
theorem dX9_init_0 : decode cX9_init 0 = .ok (.aload_n 0, 1) := by decide +kernel
theorem dX9_init_1 : decode cX9_init 1 = .ok (.invokespecial 3, 3) := by decide +kernel
theorem dX9_init_4 : decode cX9_init 4 = .ok (.aload_n 0, 1) := by decide +kernel
theorem dX9_init_5 : decode cX9_init 5 = .ok (.iconst 5, 1) := by decide +kernel
theorem dX9_init_6 : decode cX9_init 6 = .ok (.putfield 9, 3) := by decide +kernel
theorem dX9_init_9 : decode cX9_init 9 = .ok (.aload_n 0, 1) := by decide +kernel
theorem dX9_init_10 : decode cX9_init 10 = .ok (.bipush 20, 2) := by decide +kernel
theorem dX9_init_12 : decode cX9_init 12 = .ok (.putfield 15, 3) := by decide +kernel
theorem dX9_init_15 : decode cX9_init 15 = .ok (.aload_n 0, 1) := by decide +kernel
theorem dX9_init_16 : decode cX9_init 16 = .ok (.iconst 0, 1) := by decide +kernel
theorem dX9_init_17 : decode cX9_init 17 = .ok (.putfield 18, 3) := by decide +kernel
theorem dX9_init_20 : decode cX9_init 20 = .ok (.aload_n 0, 1) := by decide +kernel
theorem dX9_init_21 : decode cX9_init 21 = .ok (.iconst 0, 1) := by decide +kernel
theorem dX9_init_22 : decode cX9_init 22 = .ok (.putfield 21, 3) := by decide +kernel
theorem dX9_init_25 : decode cX9_init 25 = .ok (.aload_n 0, 1) := by decide +kernel
theorem dX9_init_26 : decode cX9_init 26 = .ok (.bipush 16, 2) := by decide +kernel
theorem dX9_init_28 : decode cX9_init 28 = .ok (.newarray .long, 2) := by decide +kernel
theorem dX9_init_30 : decode cX9_init 30 = .ok (.putfield 24, 3) := by decide +kernel
theorem dX9_init_33 : decode cX9_init 33 = .ok (.aload_n 0, 1) := by decide +kernel
theorem dX9_init_34 : decode cX9_init 34 = .ok (.bipush 16, 2) := by decide +kernel
theorem dX9_init_36 : decode cX9_init 36 = .ok (.newarray .int, 2) := by decide +kernel
theorem dX9_init_38 : decode cX9_init 38 = .ok (.putfield 28, 3) := by decide +kernel
theorem dX9_init_41 : decode cX9_init 41 = .ok (.aload_n 0, 1) := by decide +kernel
theorem dX9_init_42 : decode cX9_init 42 = .ok (.bipush 16, 2) := by decide +kernel
theorem dX9_init_44 : decode cX9_init 44 = .ok (.newarray .int, 2) := by decide +kernel
theorem dX9_init_46 : decode cX9_init 46 = .ok (.putfield 32, 3) := by decide +kernel
theorem dX9_init_49 : decode cX9_init 49 = .ok (.aload_n 0, 1) := by decide +kernel
theorem dX9_init_50 : decode cX9_init 50 = .ok (.bipush 16, 2) := by decide +kernel
theorem dX9_init_52 : decode cX9_init 52 = .ok (.bipush 8, 2) := by decide +kernel
theorem dX9_init_54 : decode cX9_init 54 = .ok (.multianewarray 35 2, 4) := by decide +kernel
theorem dX9_init_58 : decode cX9_init 58 = .ok (.putfield 37, 3) := by decide +kernel
theorem dX9_init_61 : decode cX9_init 61 = .ok (.aload_n 0, 1) := by decide +kernel
theorem dX9_init_62 : decode cX9_init 62 = .ok (.bipush 16, 2) := by decide +kernel
theorem dX9_init_64 : decode cX9_init 64 = .ok (.newarray .int, 2) := by decide +kernel
theorem dX9_init_66 : decode cX9_init 66 = .ok (.putfield 40, 3) := by decide +kernel
theorem dX9_init_69 : decode cX9_init 69 = .ok (.aload_n 0, 1) := by decide +kernel
theorem dX9_init_70 : decode cX9_init 70 = .ok (.iconst 4, 1) := by decide +kernel
theorem dX9_init_71 : decode cX9_init 71 = .ok (.newarray .int, 2) := by decide +kernel
theorem dX9_init_73 : decode cX9_init 73 = .ok (.putfield 43, 3) := by decide +kernel
theorem dX9_init_76 : decode cX9_init 76 = .ok (.aload_n 0, 1) := by decide +kernel
theorem dX9_init_77 : decode cX9_init 77 = .ok (.iconst 4, 1) := by decide +kernel
theorem dX9_init_78 : decode cX9_init 78 = .ok (.newarray .int, 2) := by decide +kernel
theorem dX9_init_80 : decode cX9_init 80 = .ok (.putfield 46, 3) := by decide +kernel
theorem dX9_init_83 : decode cX9_init 83 = .ok (.return_, 1) := by decide +kernel
theorem dX9_clear_0 : decode cX9_clear 0 = .ok (.aload_n 0, 1) := by decide +kernel
theorem dX9_clear_1 : decode cX9_clear 1 = .ok (.iconst 5, 1) := by decide +kernel
theorem dX9_clear_2 : decode cX9_clear 2 = .ok (.putfield 9, 3) := by decide +kernel
theorem dX9_clear_5 : decode cX9_clear 5 = .ok (.aload_n 0, 1) := by decide +kernel
theorem dX9_clear_6 : decode cX9_clear 6 = .ok (.bipush 20, 2) := by decide +kernel
theorem dX9_clear_8 : decode cX9_clear 8 = .ok (.putfield 15, 3) := by decide +kernel
theorem dX9_clear_11 : decode cX9_clear 11 = .ok (.aload_n 0, 1) := by decide +kernel
theorem dX9_clear_12 : decode cX9_clear 12 = .ok (.iconst 0, 1) := by decide +kernel
theorem dX9_clear_13 : decode cX9_clear 13 = .ok (.putfield 18, 3) := by decide +kernel
theorem dX9_clear_16 : decode cX9_clear 16 = .ok (.aload_n 0, 1) := by decide +kernel
theorem dX9_clear_17 : decode cX9_clear 17 = .ok (.iconst 0, 1) := by decide +kernel
theorem dX9_clear_18 : decode cX9_clear 18 = .ok (.putfield 21, 3) := by decide +kernel
theorem dX9_clear_21 : decode cX9_clear 21 = .ok (.iconst 0, 1) := by decide +kernel
theorem dX9_clear_22 : decode cX9_clear 22 = .ok (.istore_n 1, 1) := by decide +kernel
theorem dX9_clear_23 : decode cX9_clear 23 = .ok (.iload_n 1, 1) := by decide +kernel
theorem dX9_clear_24 : decode cX9_clear 24 = .ok (.bipush 16, 2) := by decide +kernel
theorem dX9_clear_26 : decode cX9_clear 26 = .ok (.if_icmp .ge 16, 3) := by decide +kernel
theorem dX9_clear_29 : decode cX9_clear 29 = .ok (.aload_n 0, 1) := by decide +kernel
theorem dX9_clear_30 : decode cX9_clear 30 = .ok (.getfield 40, 3) := by decide +kernel
theorem dX9_clear_33 : decode cX9_clear 33 = .ok (.iload_n 1, 1) := by decide +kernel
theorem dX9_clear_34 : decode cX9_clear 34 = .ok (.iconst 0, 1) := by decide +kernel
theorem dX9_clear_35 : decode cX9_clear 35 = .ok (.iastore, 1) := by decide +kernel
theorem dX9_clear_36 : decode cX9_clear 36 = .ok (.iinc 1 1, 3) := by decide +kernel
theorem dX9_clear_39 : decode cX9_clear 39 = .ok (.goto (-16), 3) := by decide +kernel
theorem dX9_clear_42 : decode cX9_clear 42 = .ok (.iconst 0, 1) := by decide +kernel
theorem dX9_clear_43 : decode cX9_clear 43 = .ok (.istore_n 1, 1) := by decide +kernel
theorem dX9_clear_44 : decode cX9_clear 44 = .ok (.iload_n 1, 1) := by decide +kernel
theorem dX9_clear_45 : decode cX9_clear 45 = .ok (.iconst 4, 1) := by decide +kernel
theorem dX9_clear_46 : decode cX9_clear 46 = .ok (.if_icmp .ge 16, 3) := by decide +kernel
theorem dX9_clear_49 : decode cX9_clear 49 = .ok (.aload_n 0, 1) := by decide +kernel
theorem dX9_clear_50 : decode cX9_clear 50 = .ok (.iload_n 1, 1) := by decide +kernel
theorem dX9_clear_51 : decode cX9_clear 51 = .ok (.iconst 0, 1) := by decide +kernel
theorem dX9_clear_52 : decode cX9_clear 52 = .ok (.iconst 0, 1) := by decide +kernel
theorem dX9_clear_53 : decode cX9_clear 53 = .ok (.invokevirtual 49, 3) := by decide +kernel
theorem dX9_clear_56 : decode cX9_clear 56 = .ok (.iinc 1 1, 3) := by decide +kernel
theorem dX9_clear_59 : decode cX9_clear 59 = .ok (.goto (-15), 3) := by decide +kernel
theorem dX9_clear_62 : decode cX9_clear 62 = .ok (.return_, 1) := by decide +kernel
theorem dX9_copyFrom_0 : decode cX9_copyFrom 0 = .ok (.aload_n 0, 1) := by decide +kernel
theorem dX9_copyFrom_1 : decode cX9_copyFrom 1 = .ok (.aload_n 1, 1) := by decide +kernel
theorem dX9_copyFrom_2 : decode cX9_copyFrom 2 = .ok (.getfield 9, 3) := by decide +kernel
theorem dX9_copyFrom_5 : decode cX9_copyFrom 5 = .ok (.putfield 9, 3) := by decide +kernel
theorem dX9_copyFrom_8 : decode cX9_copyFrom 8 = .ok (.aload_n 0, 1) := by decide +kernel
theorem dX9_copyFrom_9 : decode cX9_copyFrom 9 = .ok (.aload_n 1, 1) := by decide +kernel
theorem dX9_copyFrom_10 : decode cX9_copyFrom 10 = .ok (.getfield 15, 3) := by decide +kernel
theorem dX9_copyFrom_13 : decode cX9_copyFrom 13 = .ok (.putfield 15, 3) := by decide +kernel
theorem dX9_copyFrom_16 : decode cX9_copyFrom 16 = .ok (.aload_n 0, 1) := by decide +kernel
theorem dX9_copyFrom_17 : decode cX9_copyFrom 17 = .ok (.aload_n 1, 1) := by decide +kernel
theorem dX9_copyFrom_18 : decode cX9_copyFrom 18 = .ok (.getfield 18, 3) := by decide +kernel
theorem dX9_copyFrom_21 : decode cX9_copyFrom 21 = .ok (.putfield 18, 3) := by decide +kernel
theorem dX9_copyFrom_24 : decode cX9_copyFrom 24 = .ok (.aload_n 0, 1) := by decide +kernel
theorem dX9_copyFrom_25 : decode cX9_copyFrom 25 = .ok (.aload_n 1, 1) := by decide +kernel
theorem dX9_copyFrom_26 : decode cX9_copyFrom 26 = .ok (.getfield 21, 3) := by decide +kernel
theorem dX9_copyFrom_29 : decode cX9_copyFrom 29 = .ok (.putfield 21, 3) := by decide +kernel
theorem dX9_copyFrom_32 : decode cX9_copyFrom 32 = .ok (.iconst 0, 1) := by decide +kernel
theorem dX9_copyFrom_33 : decode cX9_copyFrom 33 = .ok (.istore_n 2, 1) := by decide +kernel
theorem dX9_copyFrom_34 : decode cX9_copyFrom 34 = .ok (.iload_n 2, 1) := by decide +kernel
theorem dX9_copyFrom_35 : decode cX9_copyFrom 35 = .ok (.bipush 16, 2) := by decide +kernel
theorem dX9_copyFrom_37 : decode cX9_copyFrom 37 = .ok (.if_icmp .ge 76, 3) := by decide +kernel
theorem dX9_copyFrom_40 : decode cX9_copyFrom 40 = .ok (.aload_n 0, 1) := by decide +kernel
theorem dX9_copyFrom_41 : decode cX9_copyFrom 41 = .ok (.getfield 24, 3) := by decide +kernel
theorem dX9_copyFrom_44 : decode cX9_copyFrom 44 = .ok (.iload_n 2, 1) := by decide +kernel
theorem dX9_copyFrom_45 : decode cX9_copyFrom 45 = .ok (.aload_n 1, 1) := by decide +kernel
theorem dX9_copyFrom_46 : decode cX9_copyFrom 46 = .ok (.getfield 24, 3) := by decide +kernel
theorem dX9_copyFrom_49 : decode cX9_copyFrom 49 = .ok (.iload_n 2, 1) := by decide +kernel
theorem dX9_copyFrom_50 : decode cX9_copyFrom 50 = .ok (.laload, 1) := by decide +kernel
theorem dX9_copyFrom_51 : decode cX9_copyFrom 51 = .ok (.lastore, 1) := by decide +kernel
theorem dX9_copyFrom_52 : decode cX9_copyFrom 52 = .ok (.aload_n 0, 1) := by decide +kernel
theorem dX9_copyFrom_53 : decode cX9_copyFrom 53 = .ok (.getfield 28, 3) := by decide +kernel
theorem dX9_copyFrom_56 : decode cX9_copyFrom 56 = .ok (.iload_n 2, 1) := by decide +kernel
theorem dX9_copyFrom_57 : decode cX9_copyFrom 57 = .ok (.aload_n 1, 1) := by decide +kernel
theorem dX9_copyFrom_58 : decode cX9_copyFrom 58 = .ok (.getfield 28, 3) := by decide +kernel
theorem dX9_copyFrom_61 : decode cX9_copyFrom 61 = .ok (.iload_n 2, 1) := by decide +kernel
theorem dX9_copyFrom_62 : decode cX9_copyFrom 62 = .ok (.iaload, 1) := by decide +kernel
theorem dX9_copyFrom_63 : decode cX9_copyFrom 63 = .ok (.iastore, 1) := by decide +kernel
theorem dX9_copyFrom_64 : decode cX9_copyFrom 64 = .ok (.aload_n 0, 1) := by decide +kernel
theorem dX9_copyFrom_65 : decode cX9_copyFrom 65 = .ok (.getfield 32, 3) := by decide +kernel
theorem dX9_copyFrom_68 : decode cX9_copyFrom 68 = .ok (.iload_n 2, 1) := by decide +kernel
theorem dX9_copyFrom_69 : decode cX9_copyFrom 69 = .ok (.aload_n 1, 1) := by decide +kernel
theorem dX9_copyFrom_70 : decode cX9_copyFrom 70 = .ok (.getfield 32, 3) := by decide +kernel
theorem dX9_copyFrom_73 : decode cX9_copyFrom 73 = .ok (.iload_n 2, 1) := by decide +kernel
theorem dX9_copyFrom_74 : decode cX9_copyFrom 74 = .ok (.iaload, 1) := by decide +kernel
theorem dX9_copyFrom_75 : decode cX9_copyFrom 75 = .ok (.iastore, 1) := by decide +kernel
theorem dX9_copyFrom_76 : decode cX9_copyFrom 76 = .ok (.aload_n 0, 1) := by decide +kernel
theorem dX9_copyFrom_77 : decode cX9_copyFrom 77 = .ok (.getfield 40, 3) := by decide +kernel
theorem dX9_copyFrom_80 : decode cX9_copyFrom 80 = .ok (.iload_n 2, 1) := by decide +kernel
theorem dX9_copyFrom_81 : decode cX9_copyFrom 81 = .ok (.aload_n 1, 1) := by decide +kernel
theorem dX9_copyFrom_82 : decode cX9_copyFrom 82 = .ok (.getfield 40, 3) := by decide +kernel
theorem dX9_copyFrom_85 : decode cX9_copyFrom 85 = .ok (.iload_n 2, 1) := by decide +kernel
theorem dX9_copyFrom_86 : decode cX9_copyFrom 86 = .ok (.iaload, 1) := by decide +kernel
theorem dX9_copyFrom_87 : decode cX9_copyFrom 87 = .ok (.iastore, 1) := by decide +kernel
theorem dX9_copyFrom_88 : decode cX9_copyFrom 88 = .ok (.aload_n 1, 1) := by decide +kernel
theorem dX9_copyFrom_89 : decode cX9_copyFrom 89 = .ok (.getfield 37, 3) := by decide +kernel
theorem dX9_copyFrom_92 : decode cX9_copyFrom 92 = .ok (.iload_n 2, 1) := by decide +kernel
theorem dX9_copyFrom_93 : decode cX9_copyFrom 93 = .ok (.aaload, 1) := by decide +kernel
theorem dX9_copyFrom_94 : decode cX9_copyFrom 94 = .ok (.iconst 0, 1) := by decide +kernel
theorem dX9_copyFrom_95 : decode cX9_copyFrom 95 = .ok (.aload_n 0, 1) := by decide +kernel
theorem dX9_copyFrom_96 : decode cX9_copyFrom 96 = .ok (.getfield 37, 3) := by decide +kernel
theorem dX9_copyFrom_99 : decode cX9_copyFrom 99 = .ok (.iload_n 2, 1) := by decide +kernel
theorem dX9_copyFrom_100 : decode cX9_copyFrom 100 = .ok (.aaload, 1) := by decide +kernel
theorem dX9_copyFrom_101 : decode cX9_copyFrom 101 = .ok (.iconst 0, 1) := by decide +kernel
theorem dX9_copyFrom_102 : decode cX9_copyFrom 102 = .ok (.bipush 8, 2) := by decide +kernel
theorem dX9_copyFrom_104 : decode cX9_copyFrom 104 = .ok (.invokestatic 53, 3) := by decide +kernel
theorem dX9_copyFrom_107 : decode cX9_copyFrom 107 = .ok (.iinc 2 1, 3) := by decide +kernel
theorem dX9_copyFrom_110 : decode cX9_copyFrom 110 = .ok (.goto (-76), 3) := by decide +kernel
theorem dX9_copyFrom_113 : decode cX9_copyFrom 113 = .ok (.iconst 0, 1) := by decide +kernel
theorem dX9_copyFrom_114 : decode cX9_copyFrom 114 = .ok (.istore_n 2, 1) := by decide +kernel
theorem dX9_copyFrom_115 : decode cX9_copyFrom 115 = .ok (.iload_n 2, 1) := by decide +kernel
theorem dX9_copyFrom_116 : decode cX9_copyFrom 116 = .ok (.iconst 4, 1) := by decide +kernel
theorem dX9_copyFrom_117 : decode cX9_copyFrom 117 = .ok (.if_icmp .ge 26, 3) := by decide +kernel
theorem dX9_copyFrom_120 : decode cX9_copyFrom 120 = .ok (.aload_n 0, 1) := by decide +kernel
theorem dX9_copyFrom_121 : decode cX9_copyFrom 121 = .ok (.iload_n 2, 1) := by decide +kernel
theorem dX9_copyFrom_122 : decode cX9_copyFrom 122 = .ok (.aload_n 1, 1) := by decide +kernel
theorem dX9_copyFrom_123 : decode cX9_copyFrom 123 = .ok (.getfield 43, 3) := by decide +kernel
theorem dX9_copyFrom_126 : decode cX9_copyFrom 126 = .ok (.iload_n 2, 1) := by decide +kernel
theorem dX9_copyFrom_127 : decode cX9_copyFrom 127 = .ok (.iaload, 1) := by decide +kernel
theorem dX9_copyFrom_128 : decode cX9_copyFrom 128 = .ok (.aload_n 1, 1) := by decide +kernel
theorem dX9_copyFrom_129 : decode cX9_copyFrom 129 = .ok (.getfield 46, 3) := by decide +kernel
theorem dX9_copyFrom_132 : decode cX9_copyFrom 132 = .ok (.iload_n 2, 1) := by decide +kernel
theorem dX9_copyFrom_133 : decode cX9_copyFrom 133 = .ok (.iaload, 1) := by decide +kernel
theorem dX9_copyFrom_134 : decode cX9_copyFrom 134 = .ok (.invokevirtual 49, 3) := by decide +kernel
theorem dX9_copyFrom_137 : decode cX9_copyFrom 137 = .ok (.iinc 2 1, 3) := by decide +kernel
theorem dX9_copyFrom_140 : decode cX9_copyFrom 140 = .ok (.goto (-25), 3) := by decide +kernel
theorem dX9_copyFrom_143 : decode cX9_copyFrom 143 = .ok (.return_, 1) := by decide +kernel
theorem dX9_has_0 : decode cX9_has 0 = .ok (.iload_n 1, 1) := by decide +kernel
theorem dX9_has_1 : decode cX9_has 1 = .ok (.ifCond .lt 21, 3) := by decide +kernel
theorem dX9_has_4 : decode cX9_has 4 = .ok (.iload_n 1, 1) := by decide +kernel
theorem dX9_has_5 : decode cX9_has 5 = .ok (.aload_n 0, 1) := by decide +kernel
theorem dX9_has_6 : decode cX9_has 6 = .ok (.getfield 18, 3) := by decide +kernel
theorem dX9_has_9 : decode cX9_has 9 = .ok (.if_icmp .ge 13, 3) := by decide +kernel
theorem dX9_has_12 : decode cX9_has 12 = .ok (.iload_n 1, 1) := by decide +kernel
theorem dX9_has_13 : decode cX9_has 13 = .ok (.bipush 16, 2) := by decide +kernel
theorem dX9_has_15 : decode cX9_has 15 = .ok (.if_icmp .ge 7, 3) := by decide +kernel
theorem dX9_has_18 : decode cX9_has 18 = .ok (.iconst 1, 1) := by decide +kernel
theorem dX9_has_19 : decode cX9_has 19 = .ok (.goto 4, 3) := by decide +kernel
theorem dX9_has_22 : decode cX9_has 22 = .ok (.iconst 0, 1) := by decide +kernel
theorem dX9_has_23 : decode cX9_has 23 = .ok (.ireturn, 1) := by decide +kernel
theorem dX9_named_0 : decode cX9_named 0 = .ok (.iconst 0, 1) := by decide +kernel
theorem dX9_named_1 : decode cX9_named 1 = .ok (.istore_n 3, 1) := by decide +kernel
theorem dX9_named_2 : decode cX9_named 2 = .ok (.iload_n 3, 1) := by decide +kernel
theorem dX9_named_3 : decode cX9_named 3 = .ok (.aload_n 0, 1) := by decide +kernel
theorem dX9_named_4 : decode cX9_named 4 = .ok (.getfield 18, 3) := by decide +kernel
theorem dX9_named_7 : decode cX9_named 7 = .ok (.if_icmp .ge 28, 3) := by decide +kernel
theorem dX9_named_10 : decode cX9_named 10 = .ok (.iload_n 3, 1) := by decide +kernel
theorem dX9_named_11 : decode cX9_named 11 = .ok (.bipush 16, 2) := by decide +kernel
theorem dX9_named_13 : decode cX9_named 13 = .ok (.if_icmp .ge 22, 3) := by decide +kernel
theorem dX9_named_16 : decode cX9_named 16 = .ok (.aload_n 0, 1) := by decide +kernel
theorem dX9_named_17 : decode cX9_named 17 = .ok (.getfield 24, 3) := by decide +kernel
theorem dX9_named_20 : decode cX9_named 20 = .ok (.iload_n 3, 1) := by decide +kernel
theorem dX9_named_21 : decode cX9_named 21 = .ok (.laload, 1) := by decide +kernel
theorem dX9_named_22 : decode cX9_named 22 = .ok (.lload_n 1, 1) := by decide +kernel
theorem dX9_named_23 : decode cX9_named 23 = .ok (.lcmp, 1) := by decide +kernel
theorem dX9_named_24 : decode cX9_named 24 = .ok (.ifCond .ne 5, 3) := by decide +kernel
theorem dX9_named_27 : decode cX9_named 27 = .ok (.iload_n 3, 1) := by decide +kernel
theorem dX9_named_28 : decode cX9_named 28 = .ok (.ireturn, 1) := by decide +kernel
theorem dX9_named_29 : decode cX9_named 29 = .ok (.iinc 3 1, 3) := by decide +kernel
theorem dX9_named_32 : decode cX9_named 32 = .ok (.goto (-30), 3) := by decide +kernel
theorem dX9_named_35 : decode cX9_named 35 = .ok (.iconst (-1), 1) := by decide +kernel
theorem dX9_named_36 : decode cX9_named 36 = .ok (.ireturn, 1) := by decide +kernel
theorem dX9_setNextMeasure_0 : decode cX9_setNextMeasure 0 = .ok (.aload_n 0, 1) := by decide +kernel
theorem dX9_setNextMeasure_1 : decode cX9_setNextMeasure 1 = .ok (.getfield 18, 3) := by decide +kernel
theorem dX9_setNextMeasure_4 : decode cX9_setNextMeasure 4 = .ok (.bipush 16, 2) := by decide +kernel
theorem dX9_setNextMeasure_6 : decode cX9_setNextMeasure 6 = .ok (.if_icmp .ge 25, 3) := by decide +kernel
theorem dX9_setNextMeasure_9 : decode cX9_setNextMeasure 9 = .ok (.iload_n 1, 1) := by decide +kernel
theorem dX9_setNextMeasure_10 : decode cX9_setNextMeasure 10 = .ok (.ifCond .lt 21, 3) := by decide +kernel
theorem dX9_setNextMeasure_13 : decode cX9_setNextMeasure 13 = .ok (.iload_n 1, 1) := by decide +kernel
theorem dX9_setNextMeasure_14 : decode cX9_setNextMeasure 14 = .ok (.bipush 8, 2) := by decide +kernel
theorem dX9_setNextMeasure_16 : decode cX9_setNextMeasure 16 = .ok (.if_icmp .ge 15, 3) := by decide +kernel
theorem dX9_setNextMeasure_19 : decode cX9_setNextMeasure 19 = .ok (.aload_n 0, 1) := by decide +kernel
theorem dX9_setNextMeasure_20 : decode cX9_setNextMeasure 20 = .ok (.getfield 37, 3) := by decide +kernel
theorem dX9_setNextMeasure_23 : decode cX9_setNextMeasure 23 = .ok (.aload_n 0, 1) := by decide +kernel
theorem dX9_setNextMeasure_24 : decode cX9_setNextMeasure 24 = .ok (.getfield 18, 3) := by decide +kernel
theorem dX9_setNextMeasure_27 : decode cX9_setNextMeasure 27 = .ok (.aaload, 1) := by decide +kernel
theorem dX9_setNextMeasure_28 : decode cX9_setNextMeasure 28 = .ok (.iload_n 1, 1) := by decide +kernel
theorem dX9_setNextMeasure_29 : decode cX9_setNextMeasure 29 = .ok (.iload_n 2, 1) := by decide +kernel
theorem dX9_setNextMeasure_30 : decode cX9_setNextMeasure 30 = .ok (.iastore, 1) := by decide +kernel
theorem dX9_setNextMeasure_31 : decode cX9_setNextMeasure 31 = .ok (.return_, 1) := by decide +kernel
theorem dX9_add_0 : decode cX9_add 0 = .ok (.aload_n 0, 1) := by decide +kernel
theorem dX9_add_1 : decode cX9_add 1 = .ok (.getfield 18, 3) := by decide +kernel
theorem dX9_add_4 : decode cX9_add 4 = .ok (.bipush 16, 2) := by decide +kernel
theorem dX9_add_6 : decode cX9_add 6 = .ok (.if_icmp .ge 44, 3) := by decide +kernel
theorem dX9_add_9 : decode cX9_add 9 = .ok (.aload_n 0, 1) := by decide +kernel
theorem dX9_add_10 : decode cX9_add 10 = .ok (.getfield 24, 3) := by decide +kernel
theorem dX9_add_13 : decode cX9_add 13 = .ok (.aload_n 0, 1) := by decide +kernel
theorem dX9_add_14 : decode cX9_add 14 = .ok (.getfield 18, 3) := by decide +kernel
theorem dX9_add_17 : decode cX9_add 17 = .ok (.lload_n 1, 1) := by decide +kernel
theorem dX9_add_18 : decode cX9_add 18 = .ok (.lastore, 1) := by decide +kernel
theorem dX9_add_19 : decode cX9_add 19 = .ok (.aload_n 0, 1) := by decide +kernel
theorem dX9_add_20 : decode cX9_add 20 = .ok (.getfield 28, 3) := by decide +kernel
theorem dX9_add_23 : decode cX9_add 23 = .ok (.aload_n 0, 1) := by decide +kernel
theorem dX9_add_24 : decode cX9_add 24 = .ok (.getfield 18, 3) := by decide +kernel
theorem dX9_add_27 : decode cX9_add 27 = .ok (.iload_n 3, 1) := by decide +kernel
theorem dX9_add_28 : decode cX9_add 28 = .ok (.iastore, 1) := by decide +kernel
theorem dX9_add_29 : decode cX9_add 29 = .ok (.aload_n 0, 1) := by decide +kernel
theorem dX9_add_30 : decode cX9_add 30 = .ok (.getfield 32, 3) := by decide +kernel
theorem dX9_add_33 : decode cX9_add 33 = .ok (.aload_n 0, 1) := by decide +kernel
theorem dX9_add_34 : decode cX9_add 34 = .ok (.getfield 18, 3) := by decide +kernel
theorem dX9_add_37 : decode cX9_add 37 = .ok (.iload 4, 2) := by decide +kernel
theorem dX9_add_39 : decode cX9_add 39 = .ok (.iastore, 1) := by decide +kernel
theorem dX9_add_40 : decode cX9_add 40 = .ok (.aload_n 0, 1) := by decide +kernel
theorem dX9_add_41 : decode cX9_add 41 = .ok (.dup, 1) := by decide +kernel
theorem dX9_add_42 : decode cX9_add 42 = .ok (.getfield 18, 3) := by decide +kernel
theorem dX9_add_45 : decode cX9_add 45 = .ok (.iconst 1, 1) := by decide +kernel
theorem dX9_add_46 : decode cX9_add 46 = .ok (.iadd, 1) := by decide +kernel
theorem dX9_add_47 : decode cX9_add 47 = .ok (.putfield 18, 3) := by decide +kernel
theorem dX9_add_50 : decode cX9_add 50 = .ok (.return_, 1) := by decide +kernel
theorem dX9_addKnows_0 : decode cX9_addKnows 0 = .ok (.aload_n 0, 1) := by decide +kernel
theorem dX9_addKnows_1 : decode cX9_addKnows 1 = .ok (.iload_n 1, 1) := by decide +kernel
theorem dX9_addKnows_2 : decode cX9_addKnows 2 = .ok (.invokevirtual 59, 3) := by decide +kernel
theorem dX9_addKnows_5 : decode cX9_addKnows 5 = .ok (.ifCond .eq 45, 3) := by decide +kernel
theorem dX9_addKnows_8 : decode cX9_addKnows 8 = .ok (.aload_n 0, 1) := by decide +kernel
theorem dX9_addKnows_9 : decode cX9_addKnows 9 = .ok (.iload_n 2, 1) := by decide +kernel
theorem dX9_addKnows_10 : decode cX9_addKnows 10 = .ok (.invokevirtual 59, 3) := by decide +kernel
theorem dX9_addKnows_13 : decode cX9_addKnows 13 = .ok (.ifCond .eq 37, 3) := by decide +kernel
theorem dX9_addKnows_16 : decode cX9_addKnows 16 = .ok (.aload_n 0, 1) := by decide +kernel
theorem dX9_addKnows_17 : decode cX9_addKnows 17 = .ok (.getfield 40, 3) := by decide +kernel
theorem dX9_addKnows_20 : decode cX9_addKnows 20 = .ok (.iload_n 1, 1) := by decide +kernel
theorem dX9_addKnows_21 : decode cX9_addKnows 21 = .ok (.dup2, 1) := by decide +kernel
theorem dX9_addKnows_22 : decode cX9_addKnows 22 = .ok (.iaload, 1) := by decide +kernel
theorem dX9_addKnows_23 : decode cX9_addKnows 23 = .ok (.iconst 1, 1) := by decide +kernel
theorem dX9_addKnows_24 : decode cX9_addKnows 24 = .ok (.iload_n 2, 1) := by decide +kernel
theorem dX9_addKnows_25 : decode cX9_addKnows 25 = .ok (.ishl, 1) := by decide +kernel
theorem dX9_addKnows_26 : decode cX9_addKnows 26 = .ok (.ior, 1) := by decide +kernel
theorem dX9_addKnows_27 : decode cX9_addKnows 27 = .ok (.iastore, 1) := by decide +kernel
theorem dX9_addKnows_28 : decode cX9_addKnows 28 = .ok (.aload_n 0, 1) := by decide +kernel
theorem dX9_addKnows_29 : decode cX9_addKnows 29 = .ok (.getfield 40, 3) := by decide +kernel
theorem dX9_addKnows_32 : decode cX9_addKnows 32 = .ok (.iload_n 2, 1) := by decide +kernel
theorem dX9_addKnows_33 : decode cX9_addKnows 33 = .ok (.dup2, 1) := by decide +kernel
theorem dX9_addKnows_34 : decode cX9_addKnows 34 = .ok (.iaload, 1) := by decide +kernel
theorem dX9_addKnows_35 : decode cX9_addKnows 35 = .ok (.iconst 1, 1) := by decide +kernel
theorem dX9_addKnows_36 : decode cX9_addKnows 36 = .ok (.iload_n 1, 1) := by decide +kernel
theorem dX9_addKnows_37 : decode cX9_addKnows 37 = .ok (.ishl, 1) := by decide +kernel
theorem dX9_addKnows_38 : decode cX9_addKnows 38 = .ok (.ior, 1) := by decide +kernel
theorem dX9_addKnows_39 : decode cX9_addKnows 39 = .ok (.iastore, 1) := by decide +kernel
theorem dX9_addKnows_40 : decode cX9_addKnows 40 = .ok (.aload_n 0, 1) := by decide +kernel
theorem dX9_addKnows_41 : decode cX9_addKnows 41 = .ok (.dup, 1) := by decide +kernel
theorem dX9_addKnows_42 : decode cX9_addKnows 42 = .ok (.getfield 21, 3) := by decide +kernel
theorem dX9_addKnows_45 : decode cX9_addKnows 45 = .ok (.iconst 1, 1) := by decide +kernel
theorem dX9_addKnows_46 : decode cX9_addKnows 46 = .ok (.iadd, 1) := by decide +kernel
theorem dX9_addKnows_47 : decode cX9_addKnows 47 = .ok (.putfield 21, 3) := by decide +kernel
theorem dX9_addKnows_50 : decode cX9_addKnows 50 = .ok (.return_, 1) := by decide +kernel
theorem dX9_setPrinter_0 : decode cX9_setPrinter 0 = .ok (.iload_n 1, 1) := by decide +kernel
theorem dX9_setPrinter_1 : decode cX9_setPrinter 1 = .ok (.ifCond .lt 22, 3) := by decide +kernel
theorem dX9_setPrinter_4 : decode cX9_setPrinter 4 = .ok (.iload_n 1, 1) := by decide +kernel
theorem dX9_setPrinter_5 : decode cX9_setPrinter 5 = .ok (.iconst 4, 1) := by decide +kernel
theorem dX9_setPrinter_6 : decode cX9_setPrinter 6 = .ok (.if_icmp .ge 17, 3) := by decide +kernel
theorem dX9_setPrinter_9 : decode cX9_setPrinter 9 = .ok (.aload_n 0, 1) := by decide +kernel
theorem dX9_setPrinter_10 : decode cX9_setPrinter 10 = .ok (.getfield 43, 3) := by decide +kernel
theorem dX9_setPrinter_13 : decode cX9_setPrinter 13 = .ok (.iload_n 1, 1) := by decide +kernel
theorem dX9_setPrinter_14 : decode cX9_setPrinter 14 = .ok (.iload_n 2, 1) := by decide +kernel
theorem dX9_setPrinter_15 : decode cX9_setPrinter 15 = .ok (.iastore, 1) := by decide +kernel
theorem dX9_setPrinter_16 : decode cX9_setPrinter 16 = .ok (.aload_n 0, 1) := by decide +kernel
theorem dX9_setPrinter_17 : decode cX9_setPrinter 17 = .ok (.getfield 46, 3) := by decide +kernel
theorem dX9_setPrinter_20 : decode cX9_setPrinter 20 = .ok (.iload_n 1, 1) := by decide +kernel
theorem dX9_setPrinter_21 : decode cX9_setPrinter 21 = .ok (.iload_n 3, 1) := by decide +kernel
theorem dX9_setPrinter_22 : decode cX9_setPrinter 22 = .ok (.iastore, 1) := by decide +kernel
theorem dX9_setPrinter_23 : decode cX9_setPrinter 23 = .ok (.return_, 1) := by decide +kernel
theorem dX9_kindOf_0 : decode cX9_kindOf 0 = .ok (.aload_n 0, 1) := by decide +kernel
theorem dX9_kindOf_1 : decode cX9_kindOf 1 = .ok (.iload_n 1, 1) := by decide +kernel
theorem dX9_kindOf_2 : decode cX9_kindOf 2 = .ok (.invokevirtual 59, 3) := by decide +kernel
theorem dX9_kindOf_5 : decode cX9_kindOf 5 = .ok (.ifCond .eq 12, 3) := by decide +kernel
theorem dX9_kindOf_8 : decode cX9_kindOf 8 = .ok (.aload_n 0, 1) := by decide +kernel
theorem dX9_kindOf_9 : decode cX9_kindOf 9 = .ok (.getfield 28, 3) := by decide +kernel
theorem dX9_kindOf_12 : decode cX9_kindOf 12 = .ok (.iload_n 1, 1) := by decide +kernel
theorem dX9_kindOf_13 : decode cX9_kindOf 13 = .ok (.iaload, 1) := by decide +kernel
theorem dX9_kindOf_14 : decode cX9_kindOf 14 = .ok (.goto 4, 3) := by decide +kernel
theorem dX9_kindOf_17 : decode cX9_kindOf 17 = .ok (.iconst (-1), 1) := by decide +kernel
theorem dX9_kindOf_18 : decode cX9_kindOf 18 = .ok (.ireturn, 1) := by decide +kernel
theorem dX9_blurOf_0 : decode cX9_blurOf 0 = .ok (.iload_n 1, 1) := by decide +kernel
theorem dX9_blurOf_1 : decode cX9_blurOf 1 = .ok (.ifCond .lt 17, 3) := by decide +kernel
theorem dX9_blurOf_4 : decode cX9_blurOf 4 = .ok (.iload_n 1, 1) := by decide +kernel
theorem dX9_blurOf_5 : decode cX9_blurOf 5 = .ok (.iconst 4, 1) := by decide +kernel
theorem dX9_blurOf_6 : decode cX9_blurOf 6 = .ok (.if_icmp .ge 12, 3) := by decide +kernel
theorem dX9_blurOf_9 : decode cX9_blurOf 9 = .ok (.aload_n 0, 1) := by decide +kernel
theorem dX9_blurOf_10 : decode cX9_blurOf 10 = .ok (.getfield 43, 3) := by decide +kernel
theorem dX9_blurOf_13 : decode cX9_blurOf 13 = .ok (.iload_n 1, 1) := by decide +kernel
theorem dX9_blurOf_14 : decode cX9_blurOf 14 = .ok (.iaload, 1) := by decide +kernel
theorem dX9_blurOf_15 : decode cX9_blurOf 15 = .ok (.goto 4, 3) := by decide +kernel
theorem dX9_blurOf_18 : decode cX9_blurOf 18 = .ok (.iconst 0, 1) := by decide +kernel
theorem dX9_blurOf_19 : decode cX9_blurOf 19 = .ok (.ireturn, 1) := by decide +kernel
theorem dX9_costOf_0 : decode cX9_costOf 0 = .ok (.iload_n 1, 1) := by decide +kernel
theorem dX9_costOf_1 : decode cX9_costOf 1 = .ok (.ifCond .lt 17, 3) := by decide +kernel
theorem dX9_costOf_4 : decode cX9_costOf 4 = .ok (.iload_n 1, 1) := by decide +kernel
theorem dX9_costOf_5 : decode cX9_costOf 5 = .ok (.iconst 4, 1) := by decide +kernel
theorem dX9_costOf_6 : decode cX9_costOf 6 = .ok (.if_icmp .ge 12, 3) := by decide +kernel
theorem dX9_costOf_9 : decode cX9_costOf 9 = .ok (.aload_n 0, 1) := by decide +kernel
theorem dX9_costOf_10 : decode cX9_costOf 10 = .ok (.getfield 46, 3) := by decide +kernel
theorem dX9_costOf_13 : decode cX9_costOf 13 = .ok (.iload_n 1, 1) := by decide +kernel
theorem dX9_costOf_14 : decode cX9_costOf 14 = .ok (.iaload, 1) := by decide +kernel
theorem dX9_costOf_15 : decode cX9_costOf 15 = .ok (.goto 4, 3) := by decide +kernel
theorem dX9_costOf_18 : decode cX9_costOf 18 = .ok (.iconst 0, 1) := by decide +kernel
theorem dX9_costOf_19 : decode cX9_costOf 19 = .ok (.ireturn, 1) := by decide +kernel
theorem dX9_countOfKind_0 : decode cX9_countOfKind 0 = .ok (.iconst 0, 1) := by decide +kernel
theorem dX9_countOfKind_1 : decode cX9_countOfKind 1 = .ok (.istore_n 2, 1) := by decide +kernel
theorem dX9_countOfKind_2 : decode cX9_countOfKind 2 = .ok (.iconst 0, 1) := by decide +kernel
theorem dX9_countOfKind_3 : decode cX9_countOfKind 3 = .ok (.istore_n 3, 1) := by decide +kernel
theorem dX9_countOfKind_4 : decode cX9_countOfKind 4 = .ok (.iload_n 3, 1) := by decide +kernel
theorem dX9_countOfKind_5 : decode cX9_countOfKind 5 = .ok (.aload_n 0, 1) := by decide +kernel
theorem dX9_countOfKind_6 : decode cX9_countOfKind 6 = .ok (.getfield 18, 3) := by decide +kernel
theorem dX9_countOfKind_9 : decode cX9_countOfKind 9 = .ok (.if_icmp .ge 21, 3) := by decide +kernel
theorem dX9_countOfKind_12 : decode cX9_countOfKind 12 = .ok (.aload_n 0, 1) := by decide +kernel
theorem dX9_countOfKind_13 : decode cX9_countOfKind 13 = .ok (.iload_n 3, 1) := by decide +kernel
theorem dX9_countOfKind_14 : decode cX9_countOfKind 14 = .ok (.invokevirtual 63, 3) := by decide +kernel
theorem dX9_countOfKind_17 : decode cX9_countOfKind 17 = .ok (.iload_n 1, 1) := by decide +kernel
theorem dX9_countOfKind_18 : decode cX9_countOfKind 18 = .ok (.if_icmp .ne 6, 3) := by decide +kernel
theorem dX9_countOfKind_21 : decode cX9_countOfKind 21 = .ok (.iinc 2 1, 3) := by decide +kernel
theorem dX9_countOfKind_24 : decode cX9_countOfKind 24 = .ok (.iinc 3 1, 3) := by decide +kernel
theorem dX9_countOfKind_27 : decode cX9_countOfKind 27 = .ok (.goto (-23), 3) := by decide +kernel
theorem dX9_countOfKind_30 : decode cX9_countOfKind 30 = .ok (.iload_n 2, 1) := by decide +kernel
theorem dX9_countOfKind_31 : decode cX9_countOfKind 31 = .ok (.ireturn, 1) := by decide +kernel
theorem dX9_measureIn_0 : decode cX9_measureIn 0 = .ok (.aload_n 0, 1) := by decide +kernel
theorem dX9_measureIn_1 : decode cX9_measureIn 1 = .ok (.iload_n 1, 1) := by decide +kernel
theorem dX9_measureIn_2 : decode cX9_measureIn 2 = .ok (.invokevirtual 59, 3) := by decide +kernel
theorem dX9_measureIn_5 : decode cX9_measureIn 5 = .ok (.ifCond .eq 13, 3) := by decide +kernel
theorem dX9_measureIn_8 : decode cX9_measureIn 8 = .ok (.iload_n 2, 1) := by decide +kernel
theorem dX9_measureIn_9 : decode cX9_measureIn 9 = .ok (.ifCond .lt 9, 3) := by decide +kernel
theorem dX9_measureIn_12 : decode cX9_measureIn 12 = .ok (.iload_n 2, 1) := by decide +kernel
theorem dX9_measureIn_13 : decode cX9_measureIn 13 = .ok (.bipush 8, 2) := by decide +kernel
theorem dX9_measureIn_15 : decode cX9_measureIn 15 = .ok (.if_icmp .lt 5, 3) := by decide +kernel
theorem dX9_measureIn_18 : decode cX9_measureIn 18 = .ok (.iconst 0, 1) := by decide +kernel
theorem dX9_measureIn_19 : decode cX9_measureIn 19 = .ok (.ireturn, 1) := by decide +kernel
theorem dX9_measureIn_20 : decode cX9_measureIn 20 = .ok (.aload_n 0, 1) := by decide +kernel
theorem dX9_measureIn_21 : decode cX9_measureIn 21 = .ok (.getfield 32, 3) := by decide +kernel
theorem dX9_measureIn_24 : decode cX9_measureIn 24 = .ok (.iload_n 1, 1) := by decide +kernel
theorem dX9_measureIn_25 : decode cX9_measureIn 25 = .ok (.iaload, 1) := by decide +kernel
theorem dX9_measureIn_26 : decode cX9_measureIn 26 = .ok (.iload_n 3, 1) := by decide +kernel
theorem dX9_measureIn_27 : decode cX9_measureIn 27 = .ok (.imul, 1) := by decide +kernel
theorem dX9_measureIn_28 : decode cX9_measureIn 28 = .ok (.bipush 10, 2) := by decide +kernel
theorem dX9_measureIn_30 : decode cX9_measureIn 30 = .ok (.idiv, 1) := by decide +kernel
theorem dX9_measureIn_31 : decode cX9_measureIn 31 = .ok (.istore 4, 2) := by decide +kernel
theorem dX9_measureIn_33 : decode cX9_measureIn 33 = .ok (.aload_n 0, 1) := by decide +kernel
theorem dX9_measureIn_34 : decode cX9_measureIn 34 = .ok (.getfield 37, 3) := by decide +kernel
theorem dX9_measureIn_37 : decode cX9_measureIn 37 = .ok (.iload_n 1, 1) := by decide +kernel
theorem dX9_measureIn_38 : decode cX9_measureIn 38 = .ok (.aaload, 1) := by decide +kernel
theorem dX9_measureIn_39 : decode cX9_measureIn 39 = .ok (.iload_n 2, 1) := by decide +kernel
theorem dX9_measureIn_40 : decode cX9_measureIn 40 = .ok (.iaload, 1) := by decide +kernel
theorem dX9_measureIn_41 : decode cX9_measureIn 41 = .ok (.iload_n 2, 1) := by decide +kernel
theorem dX9_measureIn_42 : decode cX9_measureIn 42 = .ok (.iconst 2, 1) := by decide +kernel
theorem dX9_measureIn_43 : decode cX9_measureIn 43 = .ok (.irem, 1) := by decide +kernel
theorem dX9_measureIn_44 : decode cX9_measureIn 44 = .ok (.ifCond .ne 8, 3) := by decide +kernel
theorem dX9_measureIn_47 : decode cX9_measureIn 47 = .ok (.iload 4, 2) := by decide +kernel
theorem dX9_measureIn_49 : decode cX9_measureIn 49 = .ok (.goto 6, 3) := by decide +kernel
theorem dX9_measureIn_52 : decode cX9_measureIn 52 = .ok (.iload 4, 2) := by decide +kernel
theorem dX9_measureIn_54 : decode cX9_measureIn 54 = .ok (.ineg, 1) := by decide +kernel
theorem dX9_measureIn_55 : decode cX9_measureIn 55 = .ok (.iadd, 1) := by decide +kernel
theorem dX9_measureIn_56 : decode cX9_measureIn 56 = .ok (.istore 5, 2) := by decide +kernel
theorem dX9_measureIn_58 : decode cX9_measureIn 58 = .ok (.iconst 0, 1) := by decide +kernel
theorem dX9_measureIn_59 : decode cX9_measureIn 59 = .ok (.bipush 99, 2) := by decide +kernel
theorem dX9_measureIn_61 : decode cX9_measureIn 61 = .ok (.iload 5, 2) := by decide +kernel
theorem dX9_measureIn_63 : decode cX9_measureIn 63 = .ok (.invokestatic 67, 3) := by decide +kernel
theorem dX9_measureIn_66 : decode cX9_measureIn 66 = .ok (.invokestatic 73, 3) := by decide +kernel
theorem dX9_measureIn_69 : decode cX9_measureIn 69 = .ok (.ireturn, 1) := by decide +kernel
theorem dX9_mixed_0 : decode cX9_mixed 0 = .ok (.aload_n 0, 1) := by decide +kernel
theorem dX9_mixed_1 : decode cX9_mixed 1 = .ok (.iload_n 1, 1) := by decide +kernel
theorem dX9_mixed_2 : decode cX9_mixed 2 = .ok (.invokevirtual 59, 3) := by decide +kernel
theorem dX9_mixed_5 : decode cX9_mixed 5 = .ok (.ifCond .eq 23, 3) := by decide +kernel
theorem dX9_mixed_8 : decode cX9_mixed 8 = .ok (.aload_n 0, 1) := by decide +kernel
theorem dX9_mixed_9 : decode cX9_mixed 9 = .ok (.iload_n 2, 1) := by decide +kernel
theorem dX9_mixed_10 : decode cX9_mixed 10 = .ok (.invokevirtual 59, 3) := by decide +kernel
theorem dX9_mixed_13 : decode cX9_mixed 13 = .ok (.ifCond .eq 15, 3) := by decide +kernel
theorem dX9_mixed_16 : decode cX9_mixed 16 = .ok (.iload 4, 2) := by decide +kernel
theorem dX9_mixed_18 : decode cX9_mixed 18 = .ok (.ifCond .lt 10, 3) := by decide +kernel
theorem dX9_mixed_21 : decode cX9_mixed 21 = .ok (.iload 4, 2) := by decide +kernel
theorem dX9_mixed_23 : decode cX9_mixed 23 = .ok (.bipush 8, 2) := by decide +kernel
theorem dX9_mixed_25 : decode cX9_mixed 25 = .ok (.if_icmp .lt 5, 3) := by decide +kernel
theorem dX9_mixed_28 : decode cX9_mixed 28 = .ok (.iconst 0, 1) := by decide +kernel
theorem dX9_mixed_29 : decode cX9_mixed 29 = .ok (.ireturn, 1) := by decide +kernel
theorem dX9_mixed_30 : decode cX9_mixed 30 = .ok (.aload_n 0, 1) := by decide +kernel
theorem dX9_mixed_31 : decode cX9_mixed 31 = .ok (.getfield 37, 3) := by decide +kernel
theorem dX9_mixed_34 : decode cX9_mixed 34 = .ok (.iload_n 1, 1) := by decide +kernel
theorem dX9_mixed_35 : decode cX9_mixed 35 = .ok (.aaload, 1) := by decide +kernel
theorem dX9_mixed_36 : decode cX9_mixed 36 = .ok (.iload 4, 2) := by decide +kernel
theorem dX9_mixed_38 : decode cX9_mixed 38 = .ok (.iaload, 1) := by decide +kernel
theorem dX9_mixed_39 : decode cX9_mixed 39 = .ok (.iload_n 3, 1) := by decide +kernel
theorem dX9_mixed_40 : decode cX9_mixed 40 = .ok (.imul, 1) := by decide +kernel
theorem dX9_mixed_41 : decode cX9_mixed 41 = .ok (.aload_n 0, 1) := by decide +kernel
theorem dX9_mixed_42 : decode cX9_mixed 42 = .ok (.getfield 37, 3) := by decide +kernel
theorem dX9_mixed_45 : decode cX9_mixed 45 = .ok (.iload_n 2, 1) := by decide +kernel
theorem dX9_mixed_46 : decode cX9_mixed 46 = .ok (.aaload, 1) := by decide +kernel
theorem dX9_mixed_47 : decode cX9_mixed 47 = .ok (.iload 4, 2) := by decide +kernel
theorem dX9_mixed_49 : decode cX9_mixed 49 = .ok (.iaload, 1) := by decide +kernel
theorem dX9_mixed_50 : decode cX9_mixed 50 = .ok (.bipush 10, 2) := by decide +kernel
theorem dX9_mixed_52 : decode cX9_mixed 52 = .ok (.iload_n 3, 1) := by decide +kernel
theorem dX9_mixed_53 : decode cX9_mixed 53 = .ok (.isub, 1) := by decide +kernel
theorem dX9_mixed_54 : decode cX9_mixed 54 = .ok (.imul, 1) := by decide +kernel
theorem dX9_mixed_55 : decode cX9_mixed 55 = .ok (.iadd, 1) := by decide +kernel
theorem dX9_mixed_56 : decode cX9_mixed 56 = .ok (.bipush 10, 2) := by decide +kernel
theorem dX9_mixed_58 : decode cX9_mixed 58 = .ok (.idiv, 1) := by decide +kernel
theorem dX9_mixed_59 : decode cX9_mixed 59 = .ok (.ireturn, 1) := by decide +kernel
theorem dX9_apart_0 : decode cX9_apart 0 = .ok (.iconst 0, 1) := by decide +kernel
theorem dX9_apart_1 : decode cX9_apart 1 = .ok (.istore_n 3, 1) := by decide +kernel
theorem dX9_apart_2 : decode cX9_apart 2 = .ok (.iconst 0, 1) := by decide +kernel
theorem dX9_apart_3 : decode cX9_apart 3 = .ok (.istore 4, 2) := by decide +kernel
theorem dX9_apart_5 : decode cX9_apart 5 = .ok (.iload 4, 2) := by decide +kernel
theorem dX9_apart_7 : decode cX9_apart 7 = .ok (.aload_n 0, 1) := by decide +kernel
theorem dX9_apart_8 : decode cX9_apart 8 = .ok (.getfield 9, 3) := by decide +kernel
theorem dX9_apart_11 : decode cX9_apart 11 = .ok (.if_icmp .ge 38, 3) := by decide +kernel
theorem dX9_apart_14 : decode cX9_apart 14 = .ok (.iload 4, 2) := by decide +kernel
theorem dX9_apart_16 : decode cX9_apart 16 = .ok (.aload_n 1, 1) := by decide +kernel
theorem dX9_apart_17 : decode cX9_apart 17 = .ok (.arraylength, 1) := by decide +kernel
theorem dX9_apart_18 : decode cX9_apart 18 = .ok (.if_icmp .ge 31, 3) := by decide +kernel
theorem dX9_apart_21 : decode cX9_apart 21 = .ok (.iload 4, 2) := by decide +kernel
theorem dX9_apart_23 : decode cX9_apart 23 = .ok (.aload_n 2, 1) := by decide +kernel
theorem dX9_apart_24 : decode cX9_apart 24 = .ok (.arraylength, 1) := by decide +kernel
theorem dX9_apart_25 : decode cX9_apart 25 = .ok (.if_icmp .ge 24, 3) := by decide +kernel
theorem dX9_apart_28 : decode cX9_apart 28 = .ok (.iload_n 3, 1) := by decide +kernel
theorem dX9_apart_29 : decode cX9_apart 29 = .ok (.aload_n 1, 1) := by decide +kernel
theorem dX9_apart_30 : decode cX9_apart 30 = .ok (.iload 4, 2) := by decide +kernel
theorem dX9_apart_32 : decode cX9_apart 32 = .ok (.iaload, 1) := by decide +kernel
theorem dX9_apart_33 : decode cX9_apart 33 = .ok (.aload_n 2, 1) := by decide +kernel
theorem dX9_apart_34 : decode cX9_apart 34 = .ok (.iload 4, 2) := by decide +kernel
theorem dX9_apart_36 : decode cX9_apart 36 = .ok (.iaload, 1) := by decide +kernel
theorem dX9_apart_37 : decode cX9_apart 37 = .ok (.isub, 1) := by decide +kernel
theorem dX9_apart_38 : decode cX9_apart 38 = .ok (.invokestatic 76, 3) := by decide +kernel
theorem dX9_apart_41 : decode cX9_apart 41 = .ok (.iadd, 1) := by decide +kernel
theorem dX9_apart_42 : decode cX9_apart 42 = .ok (.istore_n 3, 1) := by decide +kernel
theorem dX9_apart_43 : decode cX9_apart 43 = .ok (.iinc 4 1, 3) := by decide +kernel
theorem dX9_apart_46 : decode cX9_apart 46 = .ok (.goto (-41), 3) := by decide +kernel
theorem dX9_apart_49 : decode cX9_apart 49 = .ok (.iload_n 3, 1) := by decide +kernel
theorem dX9_apart_50 : decode cX9_apart 50 = .ok (.ireturn, 1) := by decide +kernel
theorem dX9_knowEachOther_0 : decode cX9_knowEachOther 0 = .ok (.aload_n 0, 1) := by decide +kernel
theorem dX9_knowEachOther_1 : decode cX9_knowEachOther 1 = .ok (.iload_n 1, 1) := by decide +kernel
theorem dX9_knowEachOther_2 : decode cX9_knowEachOther 2 = .ok (.invokevirtual 59, 3) := by decide +kernel
theorem dX9_knowEachOther_5 : decode cX9_knowEachOther 5 = .ok (.ifCond .eq 29, 3) := by decide +kernel
theorem dX9_knowEachOther_8 : decode cX9_knowEachOther 8 = .ok (.aload_n 0, 1) := by decide +kernel
theorem dX9_knowEachOther_9 : decode cX9_knowEachOther 9 = .ok (.iload_n 2, 1) := by decide +kernel
theorem dX9_knowEachOther_10 : decode cX9_knowEachOther 10 = .ok (.invokevirtual 59, 3) := by decide +kernel
theorem dX9_knowEachOther_13 : decode cX9_knowEachOther 13 = .ok (.ifCond .eq 21, 3) := by decide +kernel
theorem dX9_knowEachOther_16 : decode cX9_knowEachOther 16 = .ok (.aload_n 0, 1) := by decide +kernel
theorem dX9_knowEachOther_17 : decode cX9_knowEachOther 17 = .ok (.getfield 40, 3) := by decide +kernel
theorem dX9_knowEachOther_20 : decode cX9_knowEachOther 20 = .ok (.iload_n 1, 1) := by decide +kernel
theorem dX9_knowEachOther_21 : decode cX9_knowEachOther 21 = .ok (.iaload, 1) := by decide +kernel
theorem dX9_knowEachOther_22 : decode cX9_knowEachOther 22 = .ok (.iload_n 2, 1) := by decide +kernel
theorem dX9_knowEachOther_23 : decode cX9_knowEachOther 23 = .ok (.ishr, 1) := by decide +kernel
theorem dX9_knowEachOther_24 : decode cX9_knowEachOther 24 = .ok (.iconst 1, 1) := by decide +kernel
theorem dX9_knowEachOther_25 : decode cX9_knowEachOther 25 = .ok (.iand, 1) := by decide +kernel
theorem dX9_knowEachOther_26 : decode cX9_knowEachOther 26 = .ok (.iconst 1, 1) := by decide +kernel
theorem dX9_knowEachOther_27 : decode cX9_knowEachOther 27 = .ok (.if_icmp .ne 7, 3) := by decide +kernel
theorem dX9_knowEachOther_30 : decode cX9_knowEachOther 30 = .ok (.iconst 1, 1) := by decide +kernel
theorem dX9_knowEachOther_31 : decode cX9_knowEachOther 31 = .ok (.goto 4, 3) := by decide +kernel
theorem dX9_knowEachOther_34 : decode cX9_knowEachOther 34 = .ok (.iconst 0, 1) := by decide +kernel
theorem dX9_knowEachOther_35 : decode cX9_knowEachOther 35 = .ok (.ireturn, 1) := by decide +kernel
theorem dX9_steps_0 : decode cX9_steps 0 = .ok (.iconst 1, 1) := by decide +kernel
theorem dX9_steps_1 : decode cX9_steps 1 = .ok (.iload_n 1, 1) := by decide +kernel
theorem dX9_steps_2 : decode cX9_steps 2 = .ok (.ishl, 1) := by decide +kernel
theorem dX9_steps_3 : decode cX9_steps 3 = .ok (.istore_n 3, 1) := by decide +kernel
theorem dX9_steps_4 : decode cX9_steps 4 = .ok (.iconst 0, 1) := by decide +kernel
theorem dX9_steps_5 : decode cX9_steps 5 = .ok (.istore 4, 2) := by decide +kernel
theorem dX9_steps_7 : decode cX9_steps 7 = .ok (.iload 4, 2) := by decide +kernel
theorem dX9_steps_9 : decode cX9_steps 9 = .ok (.bipush 16, 2) := by decide +kernel
theorem dX9_steps_11 : decode cX9_steps 11 = .ok (.if_icmp .ge 27, 3) := by decide +kernel
theorem dX9_steps_14 : decode cX9_steps 14 = .ok (.iload_n 3, 1) := by decide +kernel
theorem dX9_steps_15 : decode cX9_steps 15 = .ok (.iload_n 2, 1) := by decide +kernel
theorem dX9_steps_16 : decode cX9_steps 16 = .ok (.ishr, 1) := by decide +kernel
theorem dX9_steps_17 : decode cX9_steps 17 = .ok (.iconst 1, 1) := by decide +kernel
theorem dX9_steps_18 : decode cX9_steps 18 = .ok (.iand, 1) := by decide +kernel
theorem dX9_steps_19 : decode cX9_steps 19 = .ok (.iconst 1, 1) := by decide +kernel
theorem dX9_steps_20 : decode cX9_steps 20 = .ok (.if_icmp .ne 6, 3) := by decide +kernel
theorem dX9_steps_23 : decode cX9_steps 23 = .ok (.iload 4, 2) := by decide +kernel
theorem dX9_steps_25 : decode cX9_steps 25 = .ok (.ireturn, 1) := by decide +kernel
theorem dX9_steps_26 : decode cX9_steps 26 = .ok (.aload_n 0, 1) := by decide +kernel
theorem dX9_steps_27 : decode cX9_steps 27 = .ok (.iload_n 3, 1) := by decide +kernel
theorem dX9_steps_28 : decode cX9_steps 28 = .ok (.invokevirtual 79, 3) := by decide +kernel
theorem dX9_steps_31 : decode cX9_steps 31 = .ok (.istore_n 3, 1) := by decide +kernel
theorem dX9_steps_32 : decode cX9_steps 32 = .ok (.iinc 4 1, 3) := by decide +kernel
theorem dX9_steps_35 : decode cX9_steps 35 = .ok (.goto (-28), 3) := by decide +kernel
theorem dX9_steps_38 : decode cX9_steps 38 = .ok (.iconst (-1), 1) := by decide +kernel
theorem dX9_steps_39 : decode cX9_steps 39 = .ok (.ireturn, 1) := by decide +kernel
theorem dX9_withFriends_0 : decode cX9_withFriends 0 = .ok (.iload_n 1, 1) := by decide +kernel
theorem dX9_withFriends_1 : decode cX9_withFriends 1 = .ok (.istore_n 2, 1) := by decide +kernel
theorem dX9_withFriends_2 : decode cX9_withFriends 2 = .ok (.iconst 0, 1) := by decide +kernel
theorem dX9_withFriends_3 : decode cX9_withFriends 3 = .ok (.istore_n 3, 1) := by decide +kernel
theorem dX9_withFriends_4 : decode cX9_withFriends 4 = .ok (.iload_n 3, 1) := by decide +kernel
theorem dX9_withFriends_5 : decode cX9_withFriends 5 = .ok (.bipush 16, 2) := by decide +kernel
theorem dX9_withFriends_7 : decode cX9_withFriends 7 = .ok (.if_icmp .ge 27, 3) := by decide +kernel
theorem dX9_withFriends_10 : decode cX9_withFriends 10 = .ok (.iload_n 1, 1) := by decide +kernel
theorem dX9_withFriends_11 : decode cX9_withFriends 11 = .ok (.iload_n 3, 1) := by decide +kernel
theorem dX9_withFriends_12 : decode cX9_withFriends 12 = .ok (.ishr, 1) := by decide +kernel
theorem dX9_withFriends_13 : decode cX9_withFriends 13 = .ok (.iconst 1, 1) := by decide +kernel
theorem dX9_withFriends_14 : decode cX9_withFriends 14 = .ok (.iand, 1) := by decide +kernel
theorem dX9_withFriends_15 : decode cX9_withFriends 15 = .ok (.iconst 1, 1) := by decide +kernel
theorem dX9_withFriends_16 : decode cX9_withFriends 16 = .ok (.if_icmp .ne 12, 3) := by decide +kernel
theorem dX9_withFriends_19 : decode cX9_withFriends 19 = .ok (.iload_n 2, 1) := by decide +kernel
theorem dX9_withFriends_20 : decode cX9_withFriends 20 = .ok (.aload_n 0, 1) := by decide +kernel
theorem dX9_withFriends_21 : decode cX9_withFriends 21 = .ok (.getfield 40, 3) := by decide +kernel
theorem dX9_withFriends_24 : decode cX9_withFriends 24 = .ok (.iload_n 3, 1) := by decide +kernel
theorem dX9_withFriends_25 : decode cX9_withFriends 25 = .ok (.iaload, 1) := by decide +kernel
theorem dX9_withFriends_26 : decode cX9_withFriends 26 = .ok (.ior, 1) := by decide +kernel
theorem dX9_withFriends_27 : decode cX9_withFriends 27 = .ok (.istore_n 2, 1) := by decide +kernel
theorem dX9_withFriends_28 : decode cX9_withFriends 28 = .ok (.iinc 3 1, 3) := by decide +kernel
theorem dX9_withFriends_31 : decode cX9_withFriends 31 = .ok (.goto (-27), 3) := by decide +kernel
theorem dX9_withFriends_34 : decode cX9_withFriends 34 = .ok (.iload_n 2, 1) := by decide +kernel
theorem dX9_withFriends_35 : decode cX9_withFriends 35 = .ok (.ireturn, 1) := by decide +kernel
theorem dX9_leastBetween_0 : decode cX9_leastBetween 0 = .ok (.iconst (-1), 1) := by decide +kernel
theorem dX9_leastBetween_1 : decode cX9_leastBetween 1 = .ok (.istore_n 3, 1) := by decide +kernel
theorem dX9_leastBetween_2 : decode cX9_leastBetween 2 = .ok (.iconst 0, 1) := by decide +kernel
theorem dX9_leastBetween_3 : decode cX9_leastBetween 3 = .ok (.istore 4, 2) := by decide +kernel
theorem dX9_leastBetween_5 : decode cX9_leastBetween 5 = .ok (.iload 4, 2) := by decide +kernel
theorem dX9_leastBetween_7 : decode cX9_leastBetween 7 = .ok (.aload_n 0, 1) := by decide +kernel
theorem dX9_leastBetween_8 : decode cX9_leastBetween 8 = .ok (.getfield 18, 3) := by decide +kernel
theorem dX9_leastBetween_11 : decode cX9_leastBetween 11 = .ok (.if_icmp .ge 107, 3) := by decide +kernel
theorem dX9_leastBetween_14 : decode cX9_leastBetween 14 = .ok (.iload 4, 2) := by decide +kernel
theorem dX9_leastBetween_16 : decode cX9_leastBetween 16 = .ok (.bipush 16, 2) := by decide +kernel
theorem dX9_leastBetween_18 : decode cX9_leastBetween 18 = .ok (.if_icmp .ge 100, 3) := by decide +kernel
theorem dX9_leastBetween_21 : decode cX9_leastBetween 21 = .ok (.iconst 0, 1) := by decide +kernel
theorem dX9_leastBetween_22 : decode cX9_leastBetween 22 = .ok (.istore 5, 2) := by decide +kernel
theorem dX9_leastBetween_24 : decode cX9_leastBetween 24 = .ok (.iload 5, 2) := by decide +kernel
theorem dX9_leastBetween_26 : decode cX9_leastBetween 26 = .ok (.aload_n 0, 1) := by decide +kernel
theorem dX9_leastBetween_27 : decode cX9_leastBetween 27 = .ok (.getfield 18, 3) := by decide +kernel
theorem dX9_leastBetween_30 : decode cX9_leastBetween 30 = .ok (.if_icmp .ge 82, 3) := by decide +kernel
theorem dX9_leastBetween_33 : decode cX9_leastBetween 33 = .ok (.iload 5, 2) := by decide +kernel
theorem dX9_leastBetween_35 : decode cX9_leastBetween 35 = .ok (.bipush 16, 2) := by decide +kernel
theorem dX9_leastBetween_37 : decode cX9_leastBetween 37 = .ok (.if_icmp .ge 75, 3) := by decide +kernel
theorem dX9_leastBetween_40 : decode cX9_leastBetween 40 = .ok (.iload 4, 2) := by decide +kernel
theorem dX9_leastBetween_42 : decode cX9_leastBetween 42 = .ok (.iload 5, 2) := by decide +kernel
theorem dX9_leastBetween_44 : decode cX9_leastBetween 44 = .ok (.if_icmp .eq 62, 3) := by decide +kernel
theorem dX9_leastBetween_47 : decode cX9_leastBetween 47 = .ok (.aload_n 0, 1) := by decide +kernel
theorem dX9_leastBetween_48 : decode cX9_leastBetween 48 = .ok (.getfield 28, 3) := by decide +kernel
theorem dX9_leastBetween_51 : decode cX9_leastBetween 51 = .ok (.iload 4, 2) := by decide +kernel
theorem dX9_leastBetween_53 : decode cX9_leastBetween 53 = .ok (.iaload, 1) := by decide +kernel
theorem dX9_leastBetween_54 : decode cX9_leastBetween 54 = .ok (.iload_n 1, 1) := by decide +kernel
theorem dX9_leastBetween_55 : decode cX9_leastBetween 55 = .ok (.if_icmp .ne 51, 3) := by decide +kernel
theorem dX9_leastBetween_58 : decode cX9_leastBetween 58 = .ok (.aload_n 0, 1) := by decide +kernel
theorem dX9_leastBetween_59 : decode cX9_leastBetween 59 = .ok (.getfield 28, 3) := by decide +kernel
theorem dX9_leastBetween_62 : decode cX9_leastBetween 62 = .ok (.iload 5, 2) := by decide +kernel
theorem dX9_leastBetween_64 : decode cX9_leastBetween 64 = .ok (.iaload, 1) := by decide +kernel
theorem dX9_leastBetween_65 : decode cX9_leastBetween 65 = .ok (.iload_n 2, 1) := by decide +kernel
theorem dX9_leastBetween_66 : decode cX9_leastBetween 66 = .ok (.if_icmp .ne 40, 3) := by decide +kernel
theorem dX9_leastBetween_69 : decode cX9_leastBetween 69 = .ok (.aload_n 0, 1) := by decide +kernel
theorem dX9_leastBetween_70 : decode cX9_leastBetween 70 = .ok (.aload_n 0, 1) := by decide +kernel
theorem dX9_leastBetween_71 : decode cX9_leastBetween 71 = .ok (.getfield 37, 3) := by decide +kernel
theorem dX9_leastBetween_74 : decode cX9_leastBetween 74 = .ok (.iload 4, 2) := by decide +kernel
theorem dX9_leastBetween_76 : decode cX9_leastBetween 76 = .ok (.aaload, 1) := by decide +kernel
theorem dX9_leastBetween_77 : decode cX9_leastBetween 77 = .ok (.aload_n 0, 1) := by decide +kernel
theorem dX9_leastBetween_78 : decode cX9_leastBetween 78 = .ok (.getfield 37, 3) := by decide +kernel
theorem dX9_leastBetween_81 : decode cX9_leastBetween 81 = .ok (.iload 5, 2) := by decide +kernel
theorem dX9_leastBetween_83 : decode cX9_leastBetween 83 = .ok (.aaload, 1) := by decide +kernel
theorem dX9_leastBetween_84 : decode cX9_leastBetween 84 = .ok (.invokevirtual 82, 3) := by decide +kernel
theorem dX9_leastBetween_87 : decode cX9_leastBetween 87 = .ok (.istore 6, 2) := by decide +kernel
theorem dX9_leastBetween_89 : decode cX9_leastBetween 89 = .ok (.iload_n 3, 1) := by decide +kernel
theorem dX9_leastBetween_90 : decode cX9_leastBetween 90 = .ok (.iconst (-1), 1) := by decide +kernel
theorem dX9_leastBetween_91 : decode cX9_leastBetween 91 = .ok (.if_icmp .ne 8, 3) := by decide +kernel
theorem dX9_leastBetween_94 : decode cX9_leastBetween 94 = .ok (.iload 6, 2) := by decide +kernel
theorem dX9_leastBetween_96 : decode cX9_leastBetween 96 = .ok (.goto 9, 3) := by decide +kernel
theorem dX9_leastBetween_99 : decode cX9_leastBetween 99 = .ok (.iload_n 3, 1) := by decide +kernel
theorem dX9_leastBetween_100 : decode cX9_leastBetween 100 = .ok (.iload 6, 2) := by decide +kernel
theorem dX9_leastBetween_102 : decode cX9_leastBetween 102 = .ok (.invokestatic 67, 3) := by decide +kernel
theorem dX9_leastBetween_105 : decode cX9_leastBetween 105 = .ok (.istore_n 3, 1) := by decide +kernel
theorem dX9_leastBetween_106 : decode cX9_leastBetween 106 = .ok (.iinc 5 1, 3) := by decide +kernel
theorem dX9_leastBetween_109 : decode cX9_leastBetween 109 = .ok (.goto (-85), 3) := by decide +kernel
theorem dX9_leastBetween_112 : decode cX9_leastBetween 112 = .ok (.iinc 4 1, 3) := by decide +kernel
theorem dX9_leastBetween_115 : decode cX9_leastBetween 115 = .ok (.goto (-110), 3) := by decide +kernel
theorem dX9_leastBetween_118 : decode cX9_leastBetween 118 = .ok (.iload_n 3, 1) := by decide +kernel
theorem dX9_leastBetween_119 : decode cX9_leastBetween 119 = .ok (.ireturn, 1) := by decide +kernel
theorem dX10_init_0 : decode cX10_init 0 = .ok (.aload_n 0, 1) := by decide +kernel
theorem dX10_init_1 : decode cX10_init 1 = .ok (.invokespecial 3, 3) := by decide +kernel
theorem dX10_init_4 : decode cX10_init 4 = .ok (.aload_n 0, 1) := by decide +kernel
theorem dX10_init_5 : decode cX10_init 5 = .ok (.iconst 0, 1) := by decide +kernel
theorem dX10_init_6 : decode cX10_init 6 = .ok (.putfield 9, 3) := by decide +kernel
theorem dX10_init_9 : decode cX10_init 9 = .ok (.aload_n 0, 1) := by decide +kernel
theorem dX10_init_10 : decode cX10_init 10 = .ok (.iconst 0, 1) := by decide +kernel
theorem dX10_init_11 : decode cX10_init 11 = .ok (.putfield 15, 3) := by decide +kernel
theorem dX10_init_14 : decode cX10_init 14 = .ok (.aload_n 0, 1) := by decide +kernel
theorem dX10_init_15 : decode cX10_init 15 = .ok (.iconst 0, 1) := by decide +kernel
theorem dX10_init_16 : decode cX10_init 16 = .ok (.putfield 18, 3) := by decide +kernel
theorem dX10_init_19 : decode cX10_init 19 = .ok (.aload_n 0, 1) := by decide +kernel
theorem dX10_init_20 : decode cX10_init 20 = .ok (.aload_n 1, 1) := by decide +kernel
theorem dX10_init_21 : decode cX10_init 21 = .ok (.putfield 22, 3) := by decide +kernel
theorem dX10_init_24 : decode cX10_init 24 = .ok (.aload_n 0, 1) := by decide +kernel
theorem dX10_init_25 : decode cX10_init 25 = .ok (.aload_n 2, 1) := by decide +kernel
theorem dX10_init_26 : decode cX10_init 26 = .ok (.putfield 26, 3) := by decide +kernel
theorem dX10_init_29 : decode cX10_init 29 = .ok (.return_, 1) := by decide +kernel
theorem dX10_read_0 : decode cX10_read 0 = .ok (.aload_n 0, 1) := by decide +kernel
theorem dX10_read_1 : decode cX10_read 1 = .ok (.getfield 26, 3) := by decide +kernel
theorem dX10_read_4 : decode cX10_read 4 = .ok (.invokevirtual 30, 3) := by decide +kernel
theorem dX10_read_7 : decode cX10_read 7 = .ok (.iconst 0, 1) := by decide +kernel
theorem dX10_read_8 : decode cX10_read 8 = .ok (.istore_n 1, 1) := by decide +kernel
theorem dX10_read_9 : decode cX10_read 9 = .ok (.iload_n 1, 1) := by decide +kernel
theorem dX10_read_10 : decode cX10_read 10 = .ok (.sipush 1600, 3) := by decide +kernel
theorem dX10_read_13 : decode cX10_read 13 = .ok (.if_icmp .ge 30, 3) := by decide +kernel
theorem dX10_read_16 : decode cX10_read 16 = .ok (.aload_n 0, 1) := by decide +kernel
theorem dX10_read_17 : decode cX10_read 17 = .ok (.getfield 22, 3) := by decide +kernel
theorem dX10_read_20 : decode cX10_read 20 = .ok (.getfield 35, 3) := by decide +kernel
theorem dX10_read_23 : decode cX10_read 23 = .ok (.bipush 26, 2) := by decide +kernel
theorem dX10_read_25 : decode cX10_read 25 = .ok (.if_icmp .eq 18, 3) := by decide +kernel
theorem dX10_read_28 : decode cX10_read 28 = .ok (.aload_n 0, 1) := by decide +kernel
theorem dX10_read_29 : decode cX10_read 29 = .ok (.invokevirtual 40, 3) := by decide +kernel
theorem dX10_read_32 : decode cX10_read 32 = .ok (.ifCond .ne 5, 3) := by decide +kernel
theorem dX10_read_35 : decode cX10_read 35 = .ok (.iconst 0, 1) := by decide +kernel
theorem dX10_read_36 : decode cX10_read 36 = .ok (.ireturn, 1) := by decide +kernel
theorem dX10_read_37 : decode cX10_read 37 = .ok (.iinc 1 1, 3) := by decide +kernel
theorem dX10_read_40 : decode cX10_read 40 = .ok (.goto (-31), 3) := by decide +kernel
theorem dX10_read_43 : decode cX10_read 43 = .ok (.iconst 1, 1) := by decide +kernel
theorem dX10_read_44 : decode cX10_read 44 = .ok (.ireturn, 1) := by decide +kernel
theorem dX10_readLine_0 : decode cX10_readLine 0 = .ok (.aload_n 0, 1) := by decide +kernel
theorem dX10_readLine_1 : decode cX10_readLine 1 = .ok (.getfield 22, 3) := by decide +kernel
theorem dX10_readLine_4 : decode cX10_readLine 4 = .ok (.getfield 35, 3) := by decide +kernel
theorem dX10_readLine_7 : decode cX10_readLine 7 = .ok (.tableswitch 78 0 9 #[53, 58, 78, 78, 78, 63, 68, 78, 78, 73], 53) := by decide +kernel
theorem dX10_readLine_60 : decode cX10_readLine 60 = .ok (.aload_n 0, 1) := by decide +kernel
theorem dX10_readLine_61 : decode cX10_readLine 61 = .ok (.invokevirtual 44, 3) := by decide +kernel
theorem dX10_readLine_64 : decode cX10_readLine 64 = .ok (.ireturn, 1) := by decide +kernel
theorem dX10_readLine_65 : decode cX10_readLine 65 = .ok (.aload_n 0, 1) := by decide +kernel
theorem dX10_readLine_66 : decode cX10_readLine 66 = .ok (.invokevirtual 47, 3) := by decide +kernel
theorem dX10_readLine_69 : decode cX10_readLine 69 = .ok (.ireturn, 1) := by decide +kernel
theorem dX10_readLine_70 : decode cX10_readLine 70 = .ok (.aload_n 0, 1) := by decide +kernel
theorem dX10_readLine_71 : decode cX10_readLine 71 = .ok (.invokevirtual 50, 3) := by decide +kernel
theorem dX10_readLine_74 : decode cX10_readLine 74 = .ok (.ireturn, 1) := by decide +kernel
theorem dX10_readLine_75 : decode cX10_readLine 75 = .ok (.aload_n 0, 1) := by decide +kernel
theorem dX10_readLine_76 : decode cX10_readLine 76 = .ok (.invokevirtual 53, 3) := by decide +kernel
theorem dX10_readLine_79 : decode cX10_readLine 79 = .ok (.ireturn, 1) := by decide +kernel
theorem dX10_readLine_80 : decode cX10_readLine 80 = .ok (.aload_n 0, 1) := by decide +kernel
theorem dX10_readLine_81 : decode cX10_readLine 81 = .ok (.invokevirtual 56, 3) := by decide +kernel
theorem dX10_readLine_84 : decode cX10_readLine 84 = .ok (.ireturn, 1) := by decide +kernel
theorem dX10_readLine_85 : decode cX10_readLine 85 = .ok (.aload_n 0, 1) := by decide +kernel
theorem dX10_readLine_86 : decode cX10_readLine 86 = .ok (.getfield 22, 3) := by decide +kernel
theorem dX10_readLine_89 : decode cX10_readLine 89 = .ok (.iconst 2, 1) := by decide +kernel
theorem dX10_readLine_90 : decode cX10_readLine 90 = .ok (.invokevirtual 59, 3) := by decide +kernel
theorem dX10_readLine_93 : decode cX10_readLine 93 = .ok (.ireturn, 1) := by decide +kernel
theorem dX10_readPoints_0 : decode cX10_readPoints 0 = .ok (.aload_n 0, 1) := by decide +kernel
theorem dX10_readPoints_1 : decode cX10_readPoints 1 = .ok (.getfield 9, 3) := by decide +kernel
theorem dX10_readPoints_4 : decode cX10_readPoints 4 = .ok (.ifCond .ne 13, 3) := by decide +kernel
theorem dX10_readPoints_7 : decode cX10_readPoints 7 = .ok (.aload_n 0, 1) := by decide +kernel
theorem dX10_readPoints_8 : decode cX10_readPoints 8 = .ok (.getfield 26, 3) := by decide +kernel
theorem dX10_readPoints_11 : decode cX10_readPoints 11 = .ok (.getfield 63, 3) := by decide +kernel
theorem dX10_readPoints_14 : decode cX10_readPoints 14 = .ok (.ifCond .le 12, 3) := by decide +kernel
theorem dX10_readPoints_17 : decode cX10_readPoints 17 = .ok (.aload_n 0, 1) := by decide +kernel
theorem dX10_readPoints_18 : decode cX10_readPoints 18 = .ok (.getfield 22, 3) := by decide +kernel
theorem dX10_readPoints_21 : decode cX10_readPoints 21 = .ok (.iconst 2, 1) := by decide +kernel
theorem dX10_readPoints_22 : decode cX10_readPoints 22 = .ok (.invokevirtual 59, 3) := by decide +kernel
theorem dX10_readPoints_25 : decode cX10_readPoints 25 = .ok (.ireturn, 1) := by decide +kernel
theorem dX10_readPoints_26 : decode cX10_readPoints 26 = .ok (.aload_n 0, 1) := by decide +kernel
theorem dX10_readPoints_27 : decode cX10_readPoints 27 = .ok (.getfield 22, 3) := by decide +kernel
theorem dX10_readPoints_30 : decode cX10_readPoints 30 = .ok (.invokevirtual 66, 3) := by decide +kernel
theorem dX10_readPoints_33 : decode cX10_readPoints 33 = .ok (.aload_n 0, 1) := by decide +kernel
theorem dX10_readPoints_34 : decode cX10_readPoints 34 = .ok (.getfield 22, 3) := by decide +kernel
theorem dX10_readPoints_37 : decode cX10_readPoints 37 = .ok (.iconst 3, 1) := by decide +kernel
theorem dX10_readPoints_38 : decode cX10_readPoints 38 = .ok (.bipush 8, 2) := by decide +kernel
theorem dX10_readPoints_40 : decode cX10_readPoints 40 = .ok (.invokevirtual 69, 3) := by decide +kernel
theorem dX10_readPoints_43 : decode cX10_readPoints 43 = .ok (.ifCond .ne 5, 3) := by decide +kernel
theorem dX10_readPoints_46 : decode cX10_readPoints 46 = .ok (.iconst 0, 1) := by decide +kernel
theorem dX10_readPoints_47 : decode cX10_readPoints 47 = .ok (.ireturn, 1) := by decide +kernel
theorem dX10_readPoints_48 : decode cX10_readPoints 48 = .ok (.aload_n 0, 1) := by decide +kernel
theorem dX10_readPoints_49 : decode cX10_readPoints 49 = .ok (.getfield 26, 3) := by decide +kernel
theorem dX10_readPoints_52 : decode cX10_readPoints 52 = .ok (.aload_n 0, 1) := by decide +kernel
theorem dX10_readPoints_53 : decode cX10_readPoints 53 = .ok (.getfield 22, 3) := by decide +kernel
theorem dX10_readPoints_56 : decode cX10_readPoints 56 = .ok (.getfield 73, 3) := by decide +kernel
theorem dX10_readPoints_59 : decode cX10_readPoints 59 = .ok (.putfield 76, 3) := by decide +kernel
theorem dX10_readPoints_62 : decode cX10_readPoints 62 = .ok (.aload_n 0, 1) := by decide +kernel
theorem dX10_readPoints_63 : decode cX10_readPoints 63 = .ok (.iconst 1, 1) := by decide +kernel
theorem dX10_readPoints_64 : decode cX10_readPoints 64 = .ok (.putfield 9, 3) := by decide +kernel
theorem dX10_readPoints_67 : decode cX10_readPoints 67 = .ok (.aload_n 0, 1) := by decide +kernel
theorem dX10_readPoints_68 : decode cX10_readPoints 68 = .ok (.getfield 22, 3) := by decide +kernel
theorem dX10_readPoints_71 : decode cX10_readPoints 71 = .ok (.invokevirtual 66, 3) := by decide +kernel
theorem dX10_readPoints_74 : decode cX10_readPoints 74 = .ok (.aload_n 0, 1) := by decide +kernel
theorem dX10_readPoints_75 : decode cX10_readPoints 75 = .ok (.getfield 22, 3) := by decide +kernel
theorem dX10_readPoints_78 : decode cX10_readPoints 78 = .ok (.bipush 59, 2) := by decide +kernel
theorem dX10_readPoints_80 : decode cX10_readPoints 80 = .ok (.invokevirtual 79, 3) := by decide +kernel
theorem dX10_readPoints_83 : decode cX10_readPoints 83 = .ok (.ireturn, 1) := by decide +kernel
theorem dX10_readNear_0 : decode cX10_readNear 0 = .ok (.aload_n 0, 1) := by decide +kernel
theorem dX10_readNear_1 : decode cX10_readNear 1 = .ok (.getfield 15, 3) := by decide +kernel
theorem dX10_readNear_4 : decode cX10_readNear 4 = .ok (.ifCond .eq 12, 3) := by decide +kernel
theorem dX10_readNear_7 : decode cX10_readNear 7 = .ok (.aload_n 0, 1) := by decide +kernel
theorem dX10_readNear_8 : decode cX10_readNear 8 = .ok (.getfield 22, 3) := by decide +kernel
theorem dX10_readNear_11 : decode cX10_readNear 11 = .ok (.iconst 2, 1) := by decide +kernel
theorem dX10_readNear_12 : decode cX10_readNear 12 = .ok (.invokevirtual 59, 3) := by decide +kernel
theorem dX10_readNear_15 : decode cX10_readNear 15 = .ok (.ireturn, 1) := by decide +kernel
theorem dX10_readNear_16 : decode cX10_readNear 16 = .ok (.aload_n 0, 1) := by decide +kernel
theorem dX10_readNear_17 : decode cX10_readNear 17 = .ok (.getfield 22, 3) := by decide +kernel
theorem dX10_readNear_20 : decode cX10_readNear 20 = .ok (.invokevirtual 66, 3) := by decide +kernel
theorem dX10_readNear_23 : decode cX10_readNear 23 = .ok (.aload_n 0, 1) := by decide +kernel
theorem dX10_readNear_24 : decode cX10_readNear 24 = .ok (.getfield 22, 3) := by decide +kernel
theorem dX10_readNear_27 : decode cX10_readNear 27 = .ok (.iconst 0, 1) := by decide +kernel
theorem dX10_readNear_28 : decode cX10_readNear 28 = .ok (.sipush 800, 3) := by decide +kernel
theorem dX10_readNear_31 : decode cX10_readNear 31 = .ok (.invokevirtual 69, 3) := by decide +kernel
theorem dX10_readNear_34 : decode cX10_readNear 34 = .ok (.ifCond .ne 5, 3) := by decide +kernel
theorem dX10_readNear_37 : decode cX10_readNear 37 = .ok (.iconst 0, 1) := by decide +kernel
theorem dX10_readNear_38 : decode cX10_readNear 38 = .ok (.ireturn, 1) := by decide +kernel
theorem dX10_readNear_39 : decode cX10_readNear 39 = .ok (.aload_n 0, 1) := by decide +kernel
theorem dX10_readNear_40 : decode cX10_readNear 40 = .ok (.getfield 26, 3) := by decide +kernel
theorem dX10_readNear_43 : decode cX10_readNear 43 = .ok (.aload_n 0, 1) := by decide +kernel
theorem dX10_readNear_44 : decode cX10_readNear 44 = .ok (.getfield 22, 3) := by decide +kernel
theorem dX10_readNear_47 : decode cX10_readNear 47 = .ok (.getfield 73, 3) := by decide +kernel
theorem dX10_readNear_50 : decode cX10_readNear 50 = .ok (.putfield 82, 3) := by decide +kernel
theorem dX10_readNear_53 : decode cX10_readNear 53 = .ok (.aload_n 0, 1) := by decide +kernel
theorem dX10_readNear_54 : decode cX10_readNear 54 = .ok (.iconst 1, 1) := by decide +kernel
theorem dX10_readNear_55 : decode cX10_readNear 55 = .ok (.putfield 15, 3) := by decide +kernel
theorem dX10_readNear_58 : decode cX10_readNear 58 = .ok (.aload_n 0, 1) := by decide +kernel
theorem dX10_readNear_59 : decode cX10_readNear 59 = .ok (.getfield 22, 3) := by decide +kernel
theorem dX10_readNear_62 : decode cX10_readNear 62 = .ok (.invokevirtual 66, 3) := by decide +kernel
theorem dX10_readNear_65 : decode cX10_readNear 65 = .ok (.aload_n 0, 1) := by decide +kernel
theorem dX10_readNear_66 : decode cX10_readNear 66 = .ok (.getfield 22, 3) := by decide +kernel
theorem dX10_readNear_69 : decode cX10_readNear 69 = .ok (.bipush 59, 2) := by decide +kernel
theorem dX10_readNear_71 : decode cX10_readNear 71 = .ok (.invokevirtual 79, 3) := by decide +kernel
theorem dX10_readNear_74 : decode cX10_readNear 74 = .ok (.ireturn, 1) := by decide +kernel
theorem dX10_readFace_0 : decode cX10_readFace 0 = .ok (.aload_n 0, 1) := by decide +kernel
theorem dX10_readFace_1 : decode cX10_readFace 1 = .ok (.getfield 26, 3) := by decide +kernel
theorem dX10_readFace_4 : decode cX10_readFace 4 = .ok (.getfield 63, 3) := by decide +kernel
theorem dX10_readFace_7 : decode cX10_readFace 7 = .ok (.bipush 16, 2) := by decide +kernel
theorem dX10_readFace_9 : decode cX10_readFace 9 = .ok (.if_icmp .lt 12, 3) := by decide +kernel
theorem dX10_readFace_12 : decode cX10_readFace 12 = .ok (.aload_n 0, 1) := by decide +kernel
theorem dX10_readFace_13 : decode cX10_readFace 13 = .ok (.getfield 22, 3) := by decide +kernel
theorem dX10_readFace_16 : decode cX10_readFace 16 = .ok (.iconst 2, 1) := by decide +kernel
theorem dX10_readFace_17 : decode cX10_readFace 17 = .ok (.invokevirtual 59, 3) := by decide +kernel
theorem dX10_readFace_20 : decode cX10_readFace 20 = .ok (.ireturn, 1) := by decide +kernel
theorem dX10_readFace_21 : decode cX10_readFace 21 = .ok (.aload_n 0, 1) := by decide +kernel
theorem dX10_readFace_22 : decode cX10_readFace 22 = .ok (.getfield 22, 3) := by decide +kernel
theorem dX10_readFace_25 : decode cX10_readFace 25 = .ok (.invokevirtual 66, 3) := by decide +kernel
theorem dX10_readFace_28 : decode cX10_readFace 28 = .ok (.aload_n 0, 1) := by decide +kernel
theorem dX10_readFace_29 : decode cX10_readFace 29 = .ok (.getfield 22, 3) := by decide +kernel
theorem dX10_readFace_32 : decode cX10_readFace 32 = .ok (.getfield 35, 3) := by decide +kernel
theorem dX10_readFace_35 : decode cX10_readFace 35 = .ok (.bipush 24, 2) := by decide +kernel
theorem dX10_readFace_37 : decode cX10_readFace 37 = .ok (.if_icmp .eq 12, 3) := by decide +kernel
theorem dX10_readFace_40 : decode cX10_readFace 40 = .ok (.aload_n 0, 1) := by decide +kernel
theorem dX10_readFace_41 : decode cX10_readFace 41 = .ok (.getfield 22, 3) := by decide +kernel
theorem dX10_readFace_44 : decode cX10_readFace 44 = .ok (.iconst 2, 1) := by decide +kernel
theorem dX10_readFace_45 : decode cX10_readFace 45 = .ok (.invokevirtual 59, 3) := by decide +kernel
theorem dX10_readFace_48 : decode cX10_readFace 48 = .ok (.ireturn, 1) := by decide +kernel
theorem dX10_readFace_49 : decode cX10_readFace 49 = .ok (.aload_n 0, 1) := by decide +kernel
theorem dX10_readFace_50 : decode cX10_readFace 50 = .ok (.getfield 22, 3) := by decide +kernel
theorem dX10_readFace_53 : decode cX10_readFace 53 = .ok (.getfield 85, 3) := by decide +kernel
theorem dX10_readFace_56 : decode cX10_readFace 56 = .ok (.lstore_n 1, 1) := by decide +kernel
theorem dX10_readFace_57 : decode cX10_readFace 57 = .ok (.aload_n 0, 1) := by decide +kernel
theorem dX10_readFace_58 : decode cX10_readFace 58 = .ok (.getfield 26, 3) := by decide +kernel
theorem dX10_readFace_61 : decode cX10_readFace 61 = .ok (.lload_n 1, 1) := by decide +kernel
theorem dX10_readFace_62 : decode cX10_readFace 62 = .ok (.invokevirtual 89, 3) := by decide +kernel
theorem dX10_readFace_65 : decode cX10_readFace 65 = .ok (.iconst (-1), 1) := by decide +kernel
theorem dX10_readFace_66 : decode cX10_readFace 66 = .ok (.if_icmp .eq 12, 3) := by decide +kernel
theorem dX10_readFace_69 : decode cX10_readFace 69 = .ok (.aload_n 0, 1) := by decide +kernel
theorem dX10_readFace_70 : decode cX10_readFace 70 = .ok (.getfield 22, 3) := by decide +kernel
theorem dX10_readFace_73 : decode cX10_readFace 73 = .ok (.iconst 3, 1) := by decide +kernel
theorem dX10_readFace_74 : decode cX10_readFace 74 = .ok (.invokevirtual 59, 3) := by decide +kernel
theorem dX10_readFace_77 : decode cX10_readFace 77 = .ok (.ireturn, 1) := by decide +kernel
theorem dX10_readFace_78 : decode cX10_readFace 78 = .ok (.aload_n 0, 1) := by decide +kernel
theorem dX10_readFace_79 : decode cX10_readFace 79 = .ok (.getfield 22, 3) := by decide +kernel
theorem dX10_readFace_82 : decode cX10_readFace 82 = .ok (.invokevirtual 66, 3) := by decide +kernel
theorem dX10_readFace_85 : decode cX10_readFace 85 = .ok (.aload_n 0, 1) := by decide +kernel
theorem dX10_readFace_86 : decode cX10_readFace 86 = .ok (.getfield 22, 3) := by decide +kernel
theorem dX10_readFace_89 : decode cX10_readFace 89 = .ok (.iconst 2, 1) := by decide +kernel
theorem dX10_readFace_90 : decode cX10_readFace 90 = .ok (.invokevirtual 79, 3) := by decide +kernel
theorem dX10_readFace_93 : decode cX10_readFace 93 = .ok (.ifCond .eq 15, 3) := by decide +kernel
theorem dX10_readFace_96 : decode cX10_readFace 96 = .ok (.aload_n 0, 1) := by decide +kernel
theorem dX10_readFace_97 : decode cX10_readFace 97 = .ok (.getfield 22, 3) := by decide +kernel
theorem dX10_readFace_100 : decode cX10_readFace 100 = .ok (.iconst 0, 1) := by decide +kernel
theorem dX10_readFace_101 : decode cX10_readFace 101 = .ok (.iconst 3, 1) := by decide +kernel
theorem dX10_readFace_102 : decode cX10_readFace 102 = .ok (.invokevirtual 69, 3) := by decide +kernel
theorem dX10_readFace_105 : decode cX10_readFace 105 = .ok (.ifCond .ne 5, 3) := by decide +kernel
theorem dX10_readFace_108 : decode cX10_readFace 108 = .ok (.iconst 0, 1) := by decide +kernel
theorem dX10_readFace_109 : decode cX10_readFace 109 = .ok (.ireturn, 1) := by decide +kernel
theorem dX10_readFace_110 : decode cX10_readFace 110 = .ok (.aload_n 0, 1) := by decide +kernel
theorem dX10_readFace_111 : decode cX10_readFace 111 = .ok (.getfield 22, 3) := by decide +kernel
theorem dX10_readFace_114 : decode cX10_readFace 114 = .ok (.getfield 73, 3) := by decide +kernel
theorem dX10_readFace_117 : decode cX10_readFace 117 = .ok (.istore_n 3, 1) := by decide +kernel
theorem dX10_readFace_118 : decode cX10_readFace 118 = .ok (.aload_n 0, 1) := by decide +kernel
theorem dX10_readFace_119 : decode cX10_readFace 119 = .ok (.getfield 22, 3) := by decide +kernel
theorem dX10_readFace_122 : decode cX10_readFace 122 = .ok (.invokevirtual 66, 3) := by decide +kernel
theorem dX10_readFace_125 : decode cX10_readFace 125 = .ok (.aload_n 0, 1) := by decide +kernel
theorem dX10_readFace_126 : decode cX10_readFace 126 = .ok (.getfield 22, 3) := by decide +kernel
theorem dX10_readFace_129 : decode cX10_readFace 129 = .ok (.iconst 3, 1) := by decide +kernel
theorem dX10_readFace_130 : decode cX10_readFace 130 = .ok (.invokevirtual 79, 3) := by decide +kernel
theorem dX10_readFace_133 : decode cX10_readFace 133 = .ok (.ifCond .eq 16, 3) := by decide +kernel
theorem dX10_readFace_136 : decode cX10_readFace 136 = .ok (.aload_n 0, 1) := by decide +kernel
theorem dX10_readFace_137 : decode cX10_readFace 137 = .ok (.getfield 22, 3) := by decide +kernel
theorem dX10_readFace_140 : decode cX10_readFace 140 = .ok (.iconst 0, 1) := by decide +kernel
theorem dX10_readFace_141 : decode cX10_readFace 141 = .ok (.bipush 9, 2) := by decide +kernel
theorem dX10_readFace_143 : decode cX10_readFace 143 = .ok (.invokevirtual 69, 3) := by decide +kernel
theorem dX10_readFace_146 : decode cX10_readFace 146 = .ok (.ifCond .ne 5, 3) := by decide +kernel
theorem dX10_readFace_149 : decode cX10_readFace 149 = .ok (.iconst 0, 1) := by decide +kernel
theorem dX10_readFace_150 : decode cX10_readFace 150 = .ok (.ireturn, 1) := by decide +kernel
theorem dX10_readFace_151 : decode cX10_readFace 151 = .ok (.aload_n 0, 1) := by decide +kernel
theorem dX10_readFace_152 : decode cX10_readFace 152 = .ok (.getfield 22, 3) := by decide +kernel
theorem dX10_readFace_155 : decode cX10_readFace 155 = .ok (.getfield 73, 3) := by decide +kernel
theorem dX10_readFace_158 : decode cX10_readFace 158 = .ok (.istore 4, 2) := by decide +kernel
theorem dX10_readFace_160 : decode cX10_readFace 160 = .ok (.aload_n 0, 1) := by decide +kernel
theorem dX10_readFace_161 : decode cX10_readFace 161 = .ok (.getfield 22, 3) := by decide +kernel
theorem dX10_readFace_164 : decode cX10_readFace 164 = .ok (.invokevirtual 66, 3) := by decide +kernel
theorem dX10_readFace_167 : decode cX10_readFace 167 = .ok (.aload_n 0, 1) := by decide +kernel
theorem dX10_readFace_168 : decode cX10_readFace 168 = .ok (.invokevirtual 93, 3) := by decide +kernel
theorem dX10_readFace_171 : decode cX10_readFace 171 = .ok (.ifCond .eq 15, 3) := by decide +kernel
theorem dX10_readFace_174 : decode cX10_readFace 174 = .ok (.aload_n 0, 1) := by decide +kernel
theorem dX10_readFace_175 : decode cX10_readFace 175 = .ok (.getfield 22, 3) := by decide +kernel
theorem dX10_readFace_178 : decode cX10_readFace 178 = .ok (.bipush 59, 2) := by decide +kernel
theorem dX10_readFace_180 : decode cX10_readFace 180 = .ok (.invokevirtual 79, 3) := by decide +kernel
theorem dX10_readFace_183 : decode cX10_readFace 183 = .ok (.ifCond .ne 5, 3) := by decide +kernel
theorem dX10_readFace_186 : decode cX10_readFace 186 = .ok (.iconst 0, 1) := by decide +kernel
theorem dX10_readFace_187 : decode cX10_readFace 187 = .ok (.ireturn, 1) := by decide +kernel
theorem dX10_readFace_188 : decode cX10_readFace 188 = .ok (.aload_n 0, 1) := by decide +kernel
theorem dX10_readFace_189 : decode cX10_readFace 189 = .ok (.getfield 26, 3) := by decide +kernel
theorem dX10_readFace_192 : decode cX10_readFace 192 = .ok (.lload_n 1, 1) := by decide +kernel
theorem dX10_readFace_193 : decode cX10_readFace 193 = .ok (.iload_n 3, 1) := by decide +kernel
theorem dX10_readFace_194 : decode cX10_readFace 194 = .ok (.iload 4, 2) := by decide +kernel
theorem dX10_readFace_196 : decode cX10_readFace 196 = .ok (.invokevirtual 96, 3) := by decide +kernel
theorem dX10_readFace_199 : decode cX10_readFace 199 = .ok (.iconst 1, 1) := by decide +kernel
theorem dX10_readFace_200 : decode cX10_readFace 200 = .ok (.ireturn, 1) := by decide +kernel
theorem dX10_readRow_0 : decode cX10_readRow 0 = .ok (.aload_n 0, 1) := by decide +kernel
theorem dX10_readRow_1 : decode cX10_readRow 1 = .ok (.getfield 22, 3) := by decide +kernel
theorem dX10_readRow_4 : decode cX10_readRow 4 = .ok (.iconst 4, 1) := by decide +kernel
theorem dX10_readRow_5 : decode cX10_readRow 5 = .ok (.invokevirtual 79, 3) := by decide +kernel
theorem dX10_readRow_8 : decode cX10_readRow 8 = .ok (.ifCond .ne 5, 3) := by decide +kernel
theorem dX10_readRow_11 : decode cX10_readRow 11 = .ok (.iconst 0, 1) := by decide +kernel
theorem dX10_readRow_12 : decode cX10_readRow 12 = .ok (.ireturn, 1) := by decide +kernel
theorem dX10_readRow_13 : decode cX10_readRow 13 = .ok (.iconst 0, 1) := by decide +kernel
theorem dX10_readRow_14 : decode cX10_readRow 14 = .ok (.istore_n 1, 1) := by decide +kernel
theorem dX10_readRow_15 : decode cX10_readRow 15 = .ok (.iload_n 1, 1) := by decide +kernel
theorem dX10_readRow_16 : decode cX10_readRow 16 = .ok (.aload_n 0, 1) := by decide +kernel
theorem dX10_readRow_17 : decode cX10_readRow 17 = .ok (.getfield 26, 3) := by decide +kernel
theorem dX10_readRow_20 : decode cX10_readRow 20 = .ok (.getfield 76, 3) := by decide +kernel
theorem dX10_readRow_23 : decode cX10_readRow 23 = .ok (.if_icmp .ge 46, 3) := by decide +kernel
theorem dX10_readRow_26 : decode cX10_readRow 26 = .ok (.aload_n 0, 1) := by decide +kernel
theorem dX10_readRow_27 : decode cX10_readRow 27 = .ok (.getfield 22, 3) := by decide +kernel
theorem dX10_readRow_30 : decode cX10_readRow 30 = .ok (.iconst 0, 1) := by decide +kernel
theorem dX10_readRow_31 : decode cX10_readRow 31 = .ok (.bipush 99, 2) := by decide +kernel
theorem dX10_readRow_33 : decode cX10_readRow 33 = .ok (.invokevirtual 69, 3) := by decide +kernel
theorem dX10_readRow_36 : decode cX10_readRow 36 = .ok (.ifCond .ne 5, 3) := by decide +kernel
theorem dX10_readRow_39 : decode cX10_readRow 39 = .ok (.iconst 0, 1) := by decide +kernel
theorem dX10_readRow_40 : decode cX10_readRow 40 = .ok (.ireturn, 1) := by decide +kernel
theorem dX10_readRow_41 : decode cX10_readRow 41 = .ok (.aload_n 0, 1) := by decide +kernel
theorem dX10_readRow_42 : decode cX10_readRow 42 = .ok (.getfield 26, 3) := by decide +kernel
theorem dX10_readRow_45 : decode cX10_readRow 45 = .ok (.iload_n 1, 1) := by decide +kernel
theorem dX10_readRow_46 : decode cX10_readRow 46 = .ok (.aload_n 0, 1) := by decide +kernel
theorem dX10_readRow_47 : decode cX10_readRow 47 = .ok (.getfield 22, 3) := by decide +kernel
theorem dX10_readRow_50 : decode cX10_readRow 50 = .ok (.getfield 73, 3) := by decide +kernel
theorem dX10_readRow_53 : decode cX10_readRow 53 = .ok (.invokevirtual 100, 3) := by decide +kernel
theorem dX10_readRow_56 : decode cX10_readRow 56 = .ok (.aload_n 0, 1) := by decide +kernel
theorem dX10_readRow_57 : decode cX10_readRow 57 = .ok (.getfield 22, 3) := by decide +kernel
theorem dX10_readRow_60 : decode cX10_readRow 60 = .ok (.invokevirtual 66, 3) := by decide +kernel
theorem dX10_readRow_63 : decode cX10_readRow 63 = .ok (.iinc 1 1, 3) := by decide +kernel
theorem dX10_readRow_66 : decode cX10_readRow 66 = .ok (.goto (-51), 3) := by decide +kernel
theorem dX10_readRow_69 : decode cX10_readRow 69 = .ok (.iconst 1, 1) := by decide +kernel
theorem dX10_readRow_70 : decode cX10_readRow 70 = .ok (.ireturn, 1) := by decide +kernel
theorem dX10_readKnows_0 : decode cX10_readKnows 0 = .ok (.aload_n 0, 1) := by decide +kernel
theorem dX10_readKnows_1 : decode cX10_readKnows 1 = .ok (.getfield 26, 3) := by decide +kernel
theorem dX10_readKnows_4 : decode cX10_readKnows 4 = .ok (.getfield 104, 3) := by decide +kernel
theorem dX10_readKnows_7 : decode cX10_readKnows 7 = .ok (.bipush 20, 2) := by decide +kernel
theorem dX10_readKnows_9 : decode cX10_readKnows 9 = .ok (.if_icmp .lt 12, 3) := by decide +kernel
theorem dX10_readKnows_12 : decode cX10_readKnows 12 = .ok (.aload_n 0, 1) := by decide +kernel
theorem dX10_readKnows_13 : decode cX10_readKnows 13 = .ok (.getfield 22, 3) := by decide +kernel
theorem dX10_readKnows_16 : decode cX10_readKnows 16 = .ok (.iconst 2, 1) := by decide +kernel
theorem dX10_readKnows_17 : decode cX10_readKnows 17 = .ok (.invokevirtual 59, 3) := by decide +kernel
theorem dX10_readKnows_20 : decode cX10_readKnows 20 = .ok (.ireturn, 1) := by decide +kernel
theorem dX10_readKnows_21 : decode cX10_readKnows 21 = .ok (.aload_n 0, 1) := by decide +kernel
theorem dX10_readKnows_22 : decode cX10_readKnows 22 = .ok (.getfield 22, 3) := by decide +kernel
theorem dX10_readKnows_25 : decode cX10_readKnows 25 = .ok (.invokevirtual 66, 3) := by decide +kernel
theorem dX10_readKnows_28 : decode cX10_readKnows 28 = .ok (.aload_n 0, 1) := by decide +kernel
theorem dX10_readKnows_29 : decode cX10_readKnows 29 = .ok (.invokevirtual 107, 3) := by decide +kernel
theorem dX10_readKnows_32 : decode cX10_readKnows 32 = .ok (.istore_n 1, 1) := by decide +kernel
theorem dX10_readKnows_33 : decode cX10_readKnows 33 = .ok (.iload_n 1, 1) := by decide +kernel
theorem dX10_readKnows_34 : decode cX10_readKnows 34 = .ok (.iconst (-1), 1) := by decide +kernel
theorem dX10_readKnows_35 : decode cX10_readKnows 35 = .ok (.if_icmp .ne 5, 3) := by decide +kernel
theorem dX10_readKnows_38 : decode cX10_readKnows 38 = .ok (.iconst 0, 1) := by decide +kernel
theorem dX10_readKnows_39 : decode cX10_readKnows 39 = .ok (.ireturn, 1) := by decide +kernel
theorem dX10_readKnows_40 : decode cX10_readKnows 40 = .ok (.aload_n 0, 1) := by decide +kernel
theorem dX10_readKnows_41 : decode cX10_readKnows 41 = .ok (.getfield 22, 3) := by decide +kernel
theorem dX10_readKnows_44 : decode cX10_readKnows 44 = .ok (.invokevirtual 66, 3) := by decide +kernel
theorem dX10_readKnows_47 : decode cX10_readKnows 47 = .ok (.aload_n 0, 1) := by decide +kernel
theorem dX10_readKnows_48 : decode cX10_readKnows 48 = .ok (.invokevirtual 107, 3) := by decide +kernel
theorem dX10_readKnows_51 : decode cX10_readKnows 51 = .ok (.istore_n 2, 1) := by decide +kernel
theorem dX10_readKnows_52 : decode cX10_readKnows 52 = .ok (.iload_n 2, 1) := by decide +kernel
theorem dX10_readKnows_53 : decode cX10_readKnows 53 = .ok (.iconst (-1), 1) := by decide +kernel
theorem dX10_readKnows_54 : decode cX10_readKnows 54 = .ok (.if_icmp .ne 5, 3) := by decide +kernel
theorem dX10_readKnows_57 : decode cX10_readKnows 57 = .ok (.iconst 0, 1) := by decide +kernel
theorem dX10_readKnows_58 : decode cX10_readKnows 58 = .ok (.ireturn, 1) := by decide +kernel
theorem dX10_readKnows_59 : decode cX10_readKnows 59 = .ok (.iload_n 1, 1) := by decide +kernel
theorem dX10_readKnows_60 : decode cX10_readKnows 60 = .ok (.iload_n 2, 1) := by decide +kernel
theorem dX10_readKnows_61 : decode cX10_readKnows 61 = .ok (.if_icmp .eq 15, 3) := by decide +kernel
theorem dX10_readKnows_64 : decode cX10_readKnows 64 = .ok (.aload_n 0, 1) := by decide +kernel
theorem dX10_readKnows_65 : decode cX10_readKnows 65 = .ok (.getfield 26, 3) := by decide +kernel
theorem dX10_readKnows_68 : decode cX10_readKnows 68 = .ok (.iload_n 1, 1) := by decide +kernel
theorem dX10_readKnows_69 : decode cX10_readKnows 69 = .ok (.iload_n 2, 1) := by decide +kernel
theorem dX10_readKnows_70 : decode cX10_readKnows 70 = .ok (.invokevirtual 111, 3) := by decide +kernel
theorem dX10_readKnows_73 : decode cX10_readKnows 73 = .ok (.ifCond .eq 12, 3) := by decide +kernel
theorem dX10_readKnows_76 : decode cX10_readKnows 76 = .ok (.aload_n 0, 1) := by decide +kernel
theorem dX10_readKnows_77 : decode cX10_readKnows 77 = .ok (.getfield 22, 3) := by decide +kernel
theorem dX10_readKnows_80 : decode cX10_readKnows 80 = .ok (.iconst 3, 1) := by decide +kernel
theorem dX10_readKnows_81 : decode cX10_readKnows 81 = .ok (.invokevirtual 59, 3) := by decide +kernel
theorem dX10_readKnows_84 : decode cX10_readKnows 84 = .ok (.ireturn, 1) := by decide +kernel
theorem dX10_readKnows_85 : decode cX10_readKnows 85 = .ok (.aload_n 0, 1) := by decide +kernel
theorem dX10_readKnows_86 : decode cX10_readKnows 86 = .ok (.getfield 22, 3) := by decide +kernel
theorem dX10_readKnows_89 : decode cX10_readKnows 89 = .ok (.invokevirtual 66, 3) := by decide +kernel
theorem dX10_readKnows_92 : decode cX10_readKnows 92 = .ok (.aload_n 0, 1) := by decide +kernel
theorem dX10_readKnows_93 : decode cX10_readKnows 93 = .ok (.getfield 22, 3) := by decide +kernel
theorem dX10_readKnows_96 : decode cX10_readKnows 96 = .ok (.bipush 59, 2) := by decide +kernel
theorem dX10_readKnows_98 : decode cX10_readKnows 98 = .ok (.invokevirtual 79, 3) := by decide +kernel
theorem dX10_readKnows_101 : decode cX10_readKnows 101 = .ok (.ifCond .ne 5, 3) := by decide +kernel
theorem dX10_readKnows_104 : decode cX10_readKnows 104 = .ok (.iconst 0, 1) := by decide +kernel
theorem dX10_readKnows_105 : decode cX10_readKnows 105 = .ok (.ireturn, 1) := by decide +kernel
theorem dX10_readKnows_106 : decode cX10_readKnows 106 = .ok (.aload_n 0, 1) := by decide +kernel
theorem dX10_readKnows_107 : decode cX10_readKnows 107 = .ok (.getfield 26, 3) := by decide +kernel
theorem dX10_readKnows_110 : decode cX10_readKnows 110 = .ok (.iload_n 1, 1) := by decide +kernel
theorem dX10_readKnows_111 : decode cX10_readKnows 111 = .ok (.iload_n 2, 1) := by decide +kernel
theorem dX10_readKnows_112 : decode cX10_readKnows 112 = .ok (.invokevirtual 114, 3) := by decide +kernel
theorem dX10_readKnows_115 : decode cX10_readKnows 115 = .ok (.iconst 1, 1) := by decide +kernel
theorem dX10_readKnows_116 : decode cX10_readKnows 116 = .ok (.ireturn, 1) := by decide +kernel
theorem dX10_faceHere_0 : decode cX10_faceHere 0 = .ok (.aload_n 0, 1) := by decide +kernel
theorem dX10_faceHere_1 : decode cX10_faceHere 1 = .ok (.getfield 22, 3) := by decide +kernel
theorem dX10_faceHere_4 : decode cX10_faceHere 4 = .ok (.getfield 35, 3) := by decide +kernel
theorem dX10_faceHere_7 : decode cX10_faceHere 7 = .ok (.bipush 24, 2) := by decide +kernel
theorem dX10_faceHere_9 : decode cX10_faceHere 9 = .ok (.if_icmp .ne 20, 3) := by decide +kernel
theorem dX10_faceHere_12 : decode cX10_faceHere 12 = .ok (.aload_n 0, 1) := by decide +kernel
theorem dX10_faceHere_13 : decode cX10_faceHere 13 = .ok (.getfield 26, 3) := by decide +kernel
theorem dX10_faceHere_16 : decode cX10_faceHere 16 = .ok (.aload_n 0, 1) := by decide +kernel
theorem dX10_faceHere_17 : decode cX10_faceHere 17 = .ok (.getfield 22, 3) := by decide +kernel
theorem dX10_faceHere_20 : decode cX10_faceHere 20 = .ok (.getfield 85, 3) := by decide +kernel
theorem dX10_faceHere_23 : decode cX10_faceHere 23 = .ok (.invokevirtual 89, 3) := by decide +kernel
theorem dX10_faceHere_26 : decode cX10_faceHere 26 = .ok (.goto 4, 3) := by decide +kernel
theorem dX10_faceHere_29 : decode cX10_faceHere 29 = .ok (.iconst (-1), 1) := by decide +kernel
theorem dX10_faceHere_30 : decode cX10_faceHere 30 = .ok (.istore_n 1, 1) := by decide +kernel
theorem dX10_faceHere_31 : decode cX10_faceHere 31 = .ok (.iload_n 1, 1) := by decide +kernel
theorem dX10_faceHere_32 : decode cX10_faceHere 32 = .ok (.iconst (-1), 1) := by decide +kernel
theorem dX10_faceHere_33 : decode cX10_faceHere 33 = .ok (.if_icmp .ne 28, 3) := by decide +kernel
theorem dX10_faceHere_36 : decode cX10_faceHere 36 = .ok (.aload_n 0, 1) := by decide +kernel
theorem dX10_faceHere_37 : decode cX10_faceHere 37 = .ok (.getfield 22, 3) := by decide +kernel
theorem dX10_faceHere_40 : decode cX10_faceHere 40 = .ok (.aload_n 0, 1) := by decide +kernel
theorem dX10_faceHere_41 : decode cX10_faceHere 41 = .ok (.getfield 22, 3) := by decide +kernel
theorem dX10_faceHere_44 : decode cX10_faceHere 44 = .ok (.getfield 35, 3) := by decide +kernel
theorem dX10_faceHere_47 : decode cX10_faceHere 47 = .ok (.bipush 24, 2) := by decide +kernel
theorem dX10_faceHere_49 : decode cX10_faceHere 49 = .ok (.if_icmp .ne 7, 3) := by decide +kernel
theorem dX10_faceHere_52 : decode cX10_faceHere 52 = .ok (.iconst 5, 1) := by decide +kernel
theorem dX10_faceHere_53 : decode cX10_faceHere 53 = .ok (.goto 4, 3) := by decide +kernel
theorem dX10_faceHere_56 : decode cX10_faceHere 56 = .ok (.iconst 2, 1) := by decide +kernel
theorem dX10_faceHere_57 : decode cX10_faceHere 57 = .ok (.invokevirtual 59, 3) := by decide +kernel
theorem dX10_faceHere_60 : decode cX10_faceHere 60 = .ok (.pop, 1) := by decide +kernel
theorem dX10_faceHere_61 : decode cX10_faceHere 61 = .ok (.iload_n 1, 1) := by decide +kernel
theorem dX10_faceHere_62 : decode cX10_faceHere 62 = .ok (.ireturn, 1) := by decide +kernel
theorem dX10_readPrinter_0 : decode cX10_readPrinter 0 = .ok (.aload_n 0, 1) := by decide +kernel
theorem dX10_readPrinter_1 : decode cX10_readPrinter 1 = .ok (.getfield 22, 3) := by decide +kernel
theorem dX10_readPrinter_4 : decode cX10_readPrinter 4 = .ok (.invokevirtual 66, 3) := by decide +kernel
theorem dX10_readPrinter_7 : decode cX10_readPrinter 7 = .ok (.aload_n 0, 1) := by decide +kernel
theorem dX10_readPrinter_8 : decode cX10_readPrinter 8 = .ok (.getfield 22, 3) := by decide +kernel
theorem dX10_readPrinter_11 : decode cX10_readPrinter 11 = .ok (.iconst 0, 1) := by decide +kernel
theorem dX10_readPrinter_12 : decode cX10_readPrinter 12 = .ok (.iconst 3, 1) := by decide +kernel
theorem dX10_readPrinter_13 : decode cX10_readPrinter 13 = .ok (.invokevirtual 69, 3) := by decide +kernel
theorem dX10_readPrinter_16 : decode cX10_readPrinter 16 = .ok (.ifCond .ne 5, 3) := by decide +kernel
theorem dX10_readPrinter_19 : decode cX10_readPrinter 19 = .ok (.iconst 0, 1) := by decide +kernel
theorem dX10_readPrinter_20 : decode cX10_readPrinter 20 = .ok (.ireturn, 1) := by decide +kernel
theorem dX10_readPrinter_21 : decode cX10_readPrinter 21 = .ok (.aload_n 0, 1) := by decide +kernel
theorem dX10_readPrinter_22 : decode cX10_readPrinter 22 = .ok (.getfield 22, 3) := by decide +kernel
theorem dX10_readPrinter_25 : decode cX10_readPrinter 25 = .ok (.getfield 73, 3) := by decide +kernel
theorem dX10_readPrinter_28 : decode cX10_readPrinter 28 = .ok (.istore_n 1, 1) := by decide +kernel
theorem dX10_readPrinter_29 : decode cX10_readPrinter 29 = .ok (.aload_n 0, 1) := by decide +kernel
theorem dX10_readPrinter_30 : decode cX10_readPrinter 30 = .ok (.getfield 18, 3) := by decide +kernel
theorem dX10_readPrinter_33 : decode cX10_readPrinter 33 = .ok (.iload_n 1, 1) := by decide +kernel
theorem dX10_readPrinter_34 : decode cX10_readPrinter 34 = .ok (.ishr, 1) := by decide +kernel
theorem dX10_readPrinter_35 : decode cX10_readPrinter 35 = .ok (.iconst 1, 1) := by decide +kernel
theorem dX10_readPrinter_36 : decode cX10_readPrinter 36 = .ok (.iand, 1) := by decide +kernel
theorem dX10_readPrinter_37 : decode cX10_readPrinter 37 = .ok (.iconst 1, 1) := by decide +kernel
theorem dX10_readPrinter_38 : decode cX10_readPrinter 38 = .ok (.if_icmp .ne 12, 3) := by decide +kernel
theorem dX10_readPrinter_41 : decode cX10_readPrinter 41 = .ok (.aload_n 0, 1) := by decide +kernel
theorem dX10_readPrinter_42 : decode cX10_readPrinter 42 = .ok (.getfield 22, 3) := by decide +kernel
theorem dX10_readPrinter_45 : decode cX10_readPrinter 45 = .ok (.iconst 3, 1) := by decide +kernel
theorem dX10_readPrinter_46 : decode cX10_readPrinter 46 = .ok (.invokevirtual 59, 3) := by decide +kernel
theorem dX10_readPrinter_49 : decode cX10_readPrinter 49 = .ok (.ireturn, 1) := by decide +kernel
theorem dX10_readPrinter_50 : decode cX10_readPrinter 50 = .ok (.aload_n 0, 1) := by decide +kernel
theorem dX10_readPrinter_51 : decode cX10_readPrinter 51 = .ok (.getfield 22, 3) := by decide +kernel
theorem dX10_readPrinter_54 : decode cX10_readPrinter 54 = .ok (.invokevirtual 66, 3) := by decide +kernel
theorem dX10_readPrinter_57 : decode cX10_readPrinter 57 = .ok (.aload_n 0, 1) := by decide +kernel
theorem dX10_readPrinter_58 : decode cX10_readPrinter 58 = .ok (.getfield 22, 3) := by decide +kernel
theorem dX10_readPrinter_61 : decode cX10_readPrinter 61 = .ok (.bipush 7, 2) := by decide +kernel
theorem dX10_readPrinter_63 : decode cX10_readPrinter 63 = .ok (.invokevirtual 79, 3) := by decide +kernel
theorem dX10_readPrinter_66 : decode cX10_readPrinter 66 = .ok (.ifCond .eq 16, 3) := by decide +kernel
theorem dX10_readPrinter_69 : decode cX10_readPrinter 69 = .ok (.aload_n 0, 1) := by decide +kernel
theorem dX10_readPrinter_70 : decode cX10_readPrinter 70 = .ok (.getfield 22, 3) := by decide +kernel
theorem dX10_readPrinter_73 : decode cX10_readPrinter 73 = .ok (.iconst 0, 1) := by decide +kernel
theorem dX10_readPrinter_74 : decode cX10_readPrinter 74 = .ok (.bipush 9, 2) := by decide +kernel
theorem dX10_readPrinter_76 : decode cX10_readPrinter 76 = .ok (.invokevirtual 69, 3) := by decide +kernel
theorem dX10_readPrinter_79 : decode cX10_readPrinter 79 = .ok (.ifCond .ne 5, 3) := by decide +kernel
theorem dX10_readPrinter_82 : decode cX10_readPrinter 82 = .ok (.iconst 0, 1) := by decide +kernel
theorem dX10_readPrinter_83 : decode cX10_readPrinter 83 = .ok (.ireturn, 1) := by decide +kernel
theorem dX10_readPrinter_84 : decode cX10_readPrinter 84 = .ok (.aload_n 0, 1) := by decide +kernel
theorem dX10_readPrinter_85 : decode cX10_readPrinter 85 = .ok (.getfield 22, 3) := by decide +kernel
theorem dX10_readPrinter_88 : decode cX10_readPrinter 88 = .ok (.getfield 73, 3) := by decide +kernel
theorem dX10_readPrinter_91 : decode cX10_readPrinter 91 = .ok (.istore_n 2, 1) := by decide +kernel
theorem dX10_readPrinter_92 : decode cX10_readPrinter 92 = .ok (.aload_n 0, 1) := by decide +kernel
theorem dX10_readPrinter_93 : decode cX10_readPrinter 93 = .ok (.getfield 22, 3) := by decide +kernel
theorem dX10_readPrinter_96 : decode cX10_readPrinter 96 = .ok (.invokevirtual 66, 3) := by decide +kernel
theorem dX10_readPrinter_99 : decode cX10_readPrinter 99 = .ok (.aload_n 0, 1) := by decide +kernel
theorem dX10_readPrinter_100 : decode cX10_readPrinter 100 = .ok (.getfield 22, 3) := by decide +kernel
theorem dX10_readPrinter_103 : decode cX10_readPrinter 103 = .ok (.bipush 8, 2) := by decide +kernel
theorem dX10_readPrinter_105 : decode cX10_readPrinter 105 = .ok (.invokevirtual 79, 3) := by decide +kernel
theorem dX10_readPrinter_108 : decode cX10_readPrinter 108 = .ok (.ifCond .eq 16, 3) := by decide +kernel
theorem dX10_readPrinter_111 : decode cX10_readPrinter 111 = .ok (.aload_n 0, 1) := by decide +kernel
theorem dX10_readPrinter_112 : decode cX10_readPrinter 112 = .ok (.getfield 22, 3) := by decide +kernel
theorem dX10_readPrinter_115 : decode cX10_readPrinter 115 = .ok (.iconst 0, 1) := by decide +kernel
theorem dX10_readPrinter_116 : decode cX10_readPrinter 116 = .ok (.bipush 99, 2) := by decide +kernel
theorem dX10_readPrinter_118 : decode cX10_readPrinter 118 = .ok (.invokevirtual 69, 3) := by decide +kernel
theorem dX10_readPrinter_121 : decode cX10_readPrinter 121 = .ok (.ifCond .ne 5, 3) := by decide +kernel
theorem dX10_readPrinter_124 : decode cX10_readPrinter 124 = .ok (.iconst 0, 1) := by decide +kernel
theorem dX10_readPrinter_125 : decode cX10_readPrinter 125 = .ok (.ireturn, 1) := by decide +kernel
theorem dX10_readPrinter_126 : decode cX10_readPrinter 126 = .ok (.aload_n 0, 1) := by decide +kernel
theorem dX10_readPrinter_127 : decode cX10_readPrinter 127 = .ok (.getfield 26, 3) := by decide +kernel
theorem dX10_readPrinter_130 : decode cX10_readPrinter 130 = .ok (.iload_n 1, 1) := by decide +kernel
theorem dX10_readPrinter_131 : decode cX10_readPrinter 131 = .ok (.iload_n 2, 1) := by decide +kernel
theorem dX10_readPrinter_132 : decode cX10_readPrinter 132 = .ok (.aload_n 0, 1) := by decide +kernel
theorem dX10_readPrinter_133 : decode cX10_readPrinter 133 = .ok (.getfield 22, 3) := by decide +kernel
theorem dX10_readPrinter_136 : decode cX10_readPrinter 136 = .ok (.getfield 73, 3) := by decide +kernel
theorem dX10_readPrinter_139 : decode cX10_readPrinter 139 = .ok (.invokevirtual 117, 3) := by decide +kernel
theorem dX10_readPrinter_142 : decode cX10_readPrinter 142 = .ok (.aload_n 0, 1) := by decide +kernel
theorem dX10_readPrinter_143 : decode cX10_readPrinter 143 = .ok (.dup, 1) := by decide +kernel
theorem dX10_readPrinter_144 : decode cX10_readPrinter 144 = .ok (.getfield 18, 3) := by decide +kernel
theorem dX10_readPrinter_147 : decode cX10_readPrinter 147 = .ok (.iconst 1, 1) := by decide +kernel
theorem dX10_readPrinter_148 : decode cX10_readPrinter 148 = .ok (.iload_n 1, 1) := by decide +kernel
theorem dX10_readPrinter_149 : decode cX10_readPrinter 149 = .ok (.ishl, 1) := by decide +kernel
theorem dX10_readPrinter_150 : decode cX10_readPrinter 150 = .ok (.ior, 1) := by decide +kernel
theorem dX10_readPrinter_151 : decode cX10_readPrinter 151 = .ok (.putfield 18, 3) := by decide +kernel
theorem dX10_readPrinter_154 : decode cX10_readPrinter 154 = .ok (.aload_n 0, 1) := by decide +kernel
theorem dX10_readPrinter_155 : decode cX10_readPrinter 155 = .ok (.getfield 22, 3) := by decide +kernel
theorem dX10_readPrinter_158 : decode cX10_readPrinter 158 = .ok (.invokevirtual 66, 3) := by decide +kernel
theorem dX10_readPrinter_161 : decode cX10_readPrinter 161 = .ok (.aload_n 0, 1) := by decide +kernel
theorem dX10_readPrinter_162 : decode cX10_readPrinter 162 = .ok (.getfield 22, 3) := by decide +kernel
theorem dX10_readPrinter_165 : decode cX10_readPrinter 165 = .ok (.bipush 59, 2) := by decide +kernel
theorem dX10_readPrinter_167 : decode cX10_readPrinter 167 = .ok (.invokevirtual 79, 3) := by decide +kernel
theorem dX10_readPrinter_170 : decode cX10_readPrinter 170 = .ok (.ireturn, 1) := by decide +kernel
theorem dX11_init_0 : decode cX11_init 0 = .ok (.aload_n 0, 1) := by decide +kernel
theorem dX11_init_1 : decode cX11_init 1 = .ok (.invokespecial 1, 3) := by decide +kernel
theorem dX11_init_4 : decode cX11_init 4 = .ok (.aload_n 0, 1) := by decide +kernel
theorem dX11_init_5 : decode cX11_init 5 = .ok (.sipush 1600, 3) := by decide +kernel
theorem dX11_init_8 : decode cX11_init 8 = .ok (.newarray .byte, 2) := by decide +kernel
theorem dX11_init_10 : decode cX11_init 10 = .ok (.putfield 9, 3) := by decide +kernel
theorem dX11_init_13 : decode cX11_init 13 = .ok (.aload_n 0, 1) := by decide +kernel
theorem dX11_init_14 : decode cX11_init 14 = .ok (.iconst 0, 1) := by decide +kernel
theorem dX11_init_15 : decode cX11_init 15 = .ok (.putfield 13, 3) := by decide +kernel
theorem dX11_init_18 : decode cX11_init 18 = .ok (.aload_n 0, 1) := by decide +kernel
theorem dX11_init_19 : decode cX11_init 19 = .ok (.iconst 0, 1) := by decide +kernel
theorem dX11_init_20 : decode cX11_init 20 = .ok (.putfield 17, 3) := by decide +kernel
theorem dX11_init_23 : decode cX11_init 23 = .ok (.aload_n 0, 1) := by decide +kernel
theorem dX11_init_24 : decode cX11_init 24 = .ok (.iconst (-1), 1) := by decide +kernel
theorem dX11_init_25 : decode cX11_init 25 = .ok (.putfield 20, 3) := by decide +kernel
theorem dX11_init_28 : decode cX11_init 28 = .ok (.aload_n 0, 1) := by decide +kernel
theorem dX11_init_29 : decode cX11_init 29 = .ok (.new 23, 3) := by decide +kernel
theorem dX11_init_32 : decode cX11_init 32 = .ok (.dup, 1) := by decide +kernel
theorem dX11_init_33 : decode cX11_init 33 = .ok (.aload_n 0, 1) := by decide +kernel
theorem dX11_init_34 : decode cX11_init 34 = .ok (.getfield 9, 3) := by decide +kernel
theorem dX11_init_37 : decode cX11_init 37 = .ok (.invokespecial 25, 3) := by decide +kernel
theorem dX11_init_40 : decode cX11_init 40 = .ok (.putfield 28, 3) := by decide +kernel
theorem dX11_init_43 : decode cX11_init 43 = .ok (.aload_n 0, 1) := by decide +kernel
theorem dX11_init_44 : decode cX11_init 44 = .ok (.new 32, 3) := by decide +kernel
theorem dX11_init_47 : decode cX11_init 47 = .ok (.dup, 1) := by decide +kernel
theorem dX11_init_48 : decode cX11_init 48 = .ok (.invokespecial 34, 3) := by decide +kernel
theorem dX11_init_51 : decode cX11_init 51 = .ok (.putfield 35, 3) := by decide +kernel
theorem dX11_init_54 : decode cX11_init 54 = .ok (.aload_n 0, 1) := by decide +kernel
theorem dX11_init_55 : decode cX11_init 55 = .ok (.new 32, 3) := by decide +kernel
theorem dX11_init_58 : decode cX11_init 58 = .ok (.dup, 1) := by decide +kernel
theorem dX11_init_59 : decode cX11_init 59 = .ok (.invokespecial 34, 3) := by decide +kernel
theorem dX11_init_62 : decode cX11_init 62 = .ok (.putfield 39, 3) := by decide +kernel
theorem dX11_init_65 : decode cX11_init 65 = .ok (.aload_n 0, 1) := by decide +kernel
theorem dX11_init_66 : decode cX11_init 66 = .ok (.new 42, 3) := by decide +kernel
theorem dX11_init_69 : decode cX11_init 69 = .ok (.dup, 1) := by decide +kernel
theorem dX11_init_70 : decode cX11_init 70 = .ok (.invokespecial 44, 3) := by decide +kernel
theorem dX11_init_73 : decode cX11_init 73 = .ok (.putfield 45, 3) := by decide +kernel
theorem dX11_init_76 : decode cX11_init 76 = .ok (.aload_n 0, 1) := by decide +kernel
theorem dX11_init_77 : decode cX11_init 77 = .ok (.new 42, 3) := by decide +kernel
theorem dX11_init_80 : decode cX11_init 80 = .ok (.dup, 1) := by decide +kernel
theorem dX11_init_81 : decode cX11_init 81 = .ok (.invokespecial 44, 3) := by decide +kernel
theorem dX11_init_84 : decode cX11_init 84 = .ok (.putfield 49, 3) := by decide +kernel
theorem dX11_init_87 : decode cX11_init 87 = .ok (.aload_n 0, 1) := by decide +kernel
theorem dX11_init_88 : decode cX11_init 88 = .ok (.new 52, 3) := by decide +kernel
theorem dX11_init_91 : decode cX11_init 91 = .ok (.dup, 1) := by decide +kernel
theorem dX11_init_92 : decode cX11_init 92 = .ok (.invokespecial 54, 3) := by decide +kernel
theorem dX11_init_95 : decode cX11_init 95 = .ok (.putfield 55, 3) := by decide +kernel
theorem dX11_init_98 : decode cX11_init 98 = .ok (.aload_n 0, 1) := by decide +kernel
theorem dX11_init_99 : decode cX11_init 99 = .ok (.iconst 3, 1) := by decide +kernel
theorem dX11_init_100 : decode cX11_init 100 = .ok (.anewarray 52, 3) := by decide +kernel
theorem dX11_init_103 : decode cX11_init 103 = .ok (.putfield 59, 3) := by decide +kernel
theorem dX11_init_106 : decode cX11_init 106 = .ok (.aload_n 0, 1) := by decide +kernel
theorem dX11_init_107 : decode cX11_init 107 = .ok (.new 63, 3) := by decide +kernel
theorem dX11_init_110 : decode cX11_init 110 = .ok (.dup, 1) := by decide +kernel
theorem dX11_init_111 : decode cX11_init 111 = .ok (.aload_n 0, 1) := by decide +kernel
theorem dX11_init_112 : decode cX11_init 112 = .ok (.getfield 35, 3) := by decide +kernel
theorem dX11_init_115 : decode cX11_init 115 = .ok (.aload_n 0, 1) := by decide +kernel
theorem dX11_init_116 : decode cX11_init 116 = .ok (.getfield 45, 3) := by decide +kernel
theorem dX11_init_119 : decode cX11_init 119 = .ok (.invokespecial 65, 3) := by decide +kernel
theorem dX11_init_122 : decode cX11_init 122 = .ok (.putfield 68, 3) := by decide +kernel
theorem dX11_init_125 : decode cX11_init 125 = .ok (.aload_n 0, 1) := by decide +kernel
theorem dX11_init_126 : decode cX11_init 126 = .ok (.new 72, 3) := by decide +kernel
theorem dX11_init_129 : decode cX11_init 129 = .ok (.dup, 1) := by decide +kernel
theorem dX11_init_130 : decode cX11_init 130 = .ok (.aload_n 0, 1) := by decide +kernel
theorem dX11_init_131 : decode cX11_init 131 = .ok (.getfield 35, 3) := by decide +kernel
theorem dX11_init_134 : decode cX11_init 134 = .ok (.aload_n 0, 1) := by decide +kernel
theorem dX11_init_135 : decode cX11_init 135 = .ok (.getfield 45, 3) := by decide +kernel
theorem dX11_init_138 : decode cX11_init 138 = .ok (.invokespecial 74, 3) := by decide +kernel
theorem dX11_init_141 : decode cX11_init 141 = .ok (.putfield 75, 3) := by decide +kernel
theorem dX11_init_144 : decode cX11_init 144 = .ok (.aload_n 0, 1) := by decide +kernel
theorem dX11_init_145 : decode cX11_init 145 = .ok (.new 79, 3) := by decide +kernel
theorem dX11_init_148 : decode cX11_init 148 = .ok (.dup, 1) := by decide +kernel
theorem dX11_init_149 : decode cX11_init 149 = .ok (.aload_n 0, 1) := by decide +kernel
theorem dX11_init_150 : decode cX11_init 150 = .ok (.getfield 35, 3) := by decide +kernel
theorem dX11_init_153 : decode cX11_init 153 = .ok (.aload_n 0, 1) := by decide +kernel
theorem dX11_init_154 : decode cX11_init 154 = .ok (.getfield 75, 3) := by decide +kernel
theorem dX11_init_157 : decode cX11_init 157 = .ok (.invokespecial 81, 3) := by decide +kernel
theorem dX11_init_160 : decode cX11_init 160 = .ok (.putfield 84, 3) := by decide +kernel
theorem dX11_init_163 : decode cX11_init 163 = .ok (.aload_n 0, 1) := by decide +kernel
theorem dX11_init_164 : decode cX11_init 164 = .ok (.new 88, 3) := by decide +kernel
theorem dX11_init_167 : decode cX11_init 167 = .ok (.dup, 1) := by decide +kernel
theorem dX11_init_168 : decode cX11_init 168 = .ok (.aload_n 0, 1) := by decide +kernel
theorem dX11_init_169 : decode cX11_init 169 = .ok (.getfield 35, 3) := by decide +kernel
theorem dX11_init_172 : decode cX11_init 172 = .ok (.aload_n 0, 1) := by decide +kernel
theorem dX11_init_173 : decode cX11_init 173 = .ok (.getfield 55, 3) := by decide +kernel
theorem dX11_init_176 : decode cX11_init 176 = .ok (.aload_n 0, 1) := by decide +kernel
theorem dX11_init_177 : decode cX11_init 177 = .ok (.getfield 68, 3) := by decide +kernel
theorem dX11_init_180 : decode cX11_init 180 = .ok (.invokespecial 90, 3) := by decide +kernel
theorem dX11_init_183 : decode cX11_init 183 = .ok (.putfield 93, 3) := by decide +kernel
theorem dX11_init_186 : decode cX11_init 186 = .ok (.aload_n 0, 1) := by decide +kernel
theorem dX11_init_187 : decode cX11_init 187 = .ok (.new 97, 3) := by decide +kernel
theorem dX11_init_190 : decode cX11_init 190 = .ok (.dup, 1) := by decide +kernel
theorem dX11_init_191 : decode cX11_init 191 = .ok (.aload_n 0, 1) := by decide +kernel
theorem dX11_init_192 : decode cX11_init 192 = .ok (.getfield 35, 3) := by decide +kernel
theorem dX11_init_195 : decode cX11_init 195 = .ok (.aload_n 0, 1) := by decide +kernel
theorem dX11_init_196 : decode cX11_init 196 = .ok (.getfield 55, 3) := by decide +kernel
theorem dX11_init_199 : decode cX11_init 199 = .ok (.invokespecial 99, 3) := by decide +kernel
theorem dX11_init_202 : decode cX11_init 202 = .ok (.putfield 102, 3) := by decide +kernel
theorem dX11_init_205 : decode cX11_init 205 = .ok (.iconst 0, 1) := by decide +kernel
theorem dX11_init_206 : decode cX11_init 206 = .ok (.istore_n 1, 1) := by decide +kernel
theorem dX11_init_207 : decode cX11_init 207 = .ok (.iload_n 1, 1) := by decide +kernel
theorem dX11_init_208 : decode cX11_init 208 = .ok (.iconst 3, 1) := by decide +kernel
theorem dX11_init_209 : decode cX11_init 209 = .ok (.if_icmp .ge 22, 3) := by decide +kernel
theorem dX11_init_212 : decode cX11_init 212 = .ok (.aload_n 0, 1) := by decide +kernel
theorem dX11_init_213 : decode cX11_init 213 = .ok (.getfield 59, 3) := by decide +kernel
theorem dX11_init_216 : decode cX11_init 216 = .ok (.iload_n 1, 1) := by decide +kernel
theorem dX11_init_217 : decode cX11_init 217 = .ok (.new 52, 3) := by decide +kernel
theorem dX11_init_220 : decode cX11_init 220 = .ok (.dup, 1) := by decide +kernel
theorem dX11_init_221 : decode cX11_init 221 = .ok (.invokespecial 54, 3) := by decide +kernel
theorem dX11_init_224 : decode cX11_init 224 = .ok (.aastore, 1) := by decide +kernel
theorem dX11_init_225 : decode cX11_init 225 = .ok (.iinc 1 1, 3) := by decide +kernel
theorem dX11_init_228 : decode cX11_init 228 = .ok (.goto (-21), 3) := by decide +kernel
theorem dX11_init_231 : decode cX11_init 231 = .ok (.return_, 1) := by decide +kernel
theorem dX11_feed_0 : decode cX11_feed 0 = .ok (.aload_n 0, 1) := by decide +kernel
theorem dX11_feed_1 : decode cX11_feed 1 = .ok (.getfield 13, 3) := by decide +kernel
theorem dX11_feed_4 : decode cX11_feed 4 = .ok (.bipush 20, 2) := by decide +kernel
theorem dX11_feed_6 : decode cX11_feed 6 = .ok (.iadd, 1) := by decide +kernel
theorem dX11_feed_7 : decode cX11_feed 7 = .ok (.sipush 1600, 3) := by decide +kernel
theorem dX11_feed_10 : decode cX11_feed 10 = .ok (.if_icmp .le 5, 3) := by decide +kernel
theorem dX11_feed_13 : decode cX11_feed 13 = .ok (.iconst (-1), 1) := by decide +kernel
theorem dX11_feed_14 : decode cX11_feed 14 = .ok (.ireturn, 1) := by decide +kernel
theorem dX11_feed_15 : decode cX11_feed 15 = .ok (.aload_n 0, 1) := by decide +kernel
theorem dX11_feed_16 : decode cX11_feed 16 = .ok (.iload_n 1, 1) := by decide +kernel
theorem dX11_feed_17 : decode cX11_feed 17 = .ok (.invokevirtual 106, 3) := by decide +kernel
theorem dX11_feed_20 : decode cX11_feed 20 = .ok (.aload_n 0, 1) := by decide +kernel
theorem dX11_feed_21 : decode cX11_feed 21 = .ok (.iload_n 2, 1) := by decide +kernel
theorem dX11_feed_22 : decode cX11_feed 22 = .ok (.invokevirtual 106, 3) := by decide +kernel
theorem dX11_feed_25 : decode cX11_feed 25 = .ok (.aload_n 0, 1) := by decide +kernel
theorem dX11_feed_26 : decode cX11_feed 26 = .ok (.iload_n 3, 1) := by decide +kernel
theorem dX11_feed_27 : decode cX11_feed 27 = .ok (.invokevirtual 106, 3) := by decide +kernel
theorem dX11_feed_30 : decode cX11_feed 30 = .ok (.aload_n 0, 1) := by decide +kernel
theorem dX11_feed_31 : decode cX11_feed 31 = .ok (.iload 4, 2) := by decide +kernel
theorem dX11_feed_33 : decode cX11_feed 33 = .ok (.invokevirtual 106, 3) := by decide +kernel
theorem dX11_feed_36 : decode cX11_feed 36 = .ok (.aload_n 0, 1) := by decide +kernel
theorem dX11_feed_37 : decode cX11_feed 37 = .ok (.iload 5, 2) := by decide +kernel
theorem dX11_feed_39 : decode cX11_feed 39 = .ok (.invokevirtual 106, 3) := by decide +kernel
theorem dX11_feed_42 : decode cX11_feed 42 = .ok (.aload_n 0, 1) := by decide +kernel
theorem dX11_feed_43 : decode cX11_feed 43 = .ok (.getfield 13, 3) := by decide +kernel
theorem dX11_feed_46 : decode cX11_feed 46 = .ok (.ireturn, 1) := by decide +kernel
theorem dX11_putOnTape_0 : decode cX11_putOnTape 0 = .ok (.bipush 24, 2) := by decide +kernel
theorem dX11_putOnTape_2 : decode cX11_putOnTape 2 = .ok (.istore_n 2, 1) := by decide +kernel
theorem dX11_putOnTape_3 : decode cX11_putOnTape 3 = .ok (.iload_n 2, 1) := by decide +kernel
theorem dX11_putOnTape_4 : decode cX11_putOnTape 4 = .ok (.ifCond .lt 42, 3) := by decide +kernel
theorem dX11_putOnTape_7 : decode cX11_putOnTape 7 = .ok (.aload_n 0, 1) := by decide +kernel
theorem dX11_putOnTape_8 : decode cX11_putOnTape 8 = .ok (.getfield 13, 3) := by decide +kernel
theorem dX11_putOnTape_11 : decode cX11_putOnTape 11 = .ok (.sipush 1600, 3) := by decide +kernel
theorem dX11_putOnTape_14 : decode cX11_putOnTape 14 = .ok (.if_icmp .ge 26, 3) := by decide +kernel
theorem dX11_putOnTape_17 : decode cX11_putOnTape 17 = .ok (.aload_n 0, 1) := by decide +kernel
theorem dX11_putOnTape_18 : decode cX11_putOnTape 18 = .ok (.getfield 9, 3) := by decide +kernel
theorem dX11_putOnTape_21 : decode cX11_putOnTape 21 = .ok (.aload_n 0, 1) := by decide +kernel
theorem dX11_putOnTape_22 : decode cX11_putOnTape 22 = .ok (.getfield 13, 3) := by decide +kernel
theorem dX11_putOnTape_25 : decode cX11_putOnTape 25 = .ok (.iload_n 1, 1) := by decide +kernel
theorem dX11_putOnTape_26 : decode cX11_putOnTape 26 = .ok (.iload_n 2, 1) := by decide +kernel
theorem dX11_putOnTape_27 : decode cX11_putOnTape 27 = .ok (.iushr, 1) := by decide +kernel
theorem dX11_putOnTape_28 : decode cX11_putOnTape 28 = .ok (.i2b, 1) := by decide +kernel
theorem dX11_putOnTape_29 : decode cX11_putOnTape 29 = .ok (.bastore, 1) := by decide +kernel
theorem dX11_putOnTape_30 : decode cX11_putOnTape 30 = .ok (.aload_n 0, 1) := by decide +kernel
theorem dX11_putOnTape_31 : decode cX11_putOnTape 31 = .ok (.dup, 1) := by decide +kernel
theorem dX11_putOnTape_32 : decode cX11_putOnTape 32 = .ok (.getfield 13, 3) := by decide +kernel
theorem dX11_putOnTape_35 : decode cX11_putOnTape 35 = .ok (.iconst 1, 1) := by decide +kernel
theorem dX11_putOnTape_36 : decode cX11_putOnTape 36 = .ok (.iadd, 1) := by decide +kernel
theorem dX11_putOnTape_37 : decode cX11_putOnTape 37 = .ok (.putfield 13, 3) := by decide +kernel
theorem dX11_putOnTape_40 : decode cX11_putOnTape 40 = .ok (.iinc 2 (-8), 3) := by decide +kernel
theorem dX11_putOnTape_43 : decode cX11_putOnTape 43 = .ok (.goto (-40), 3) := by decide +kernel
theorem dX11_putOnTape_46 : decode cX11_putOnTape 46 = .ok (.return_, 1) := by decide +kernel
theorem dX11_end_0 : decode cX11_end 0 = .ok (.iload_n 1, 1) := by decide +kernel
theorem dX11_end_1 : decode cX11_end 1 = .ok (.ifCond .lt 11, 3) := by decide +kernel
theorem dX11_end_4 : decode cX11_end 4 = .ok (.iload_n 1, 1) := by decide +kernel
theorem dX11_end_5 : decode cX11_end 5 = .ok (.aload_n 0, 1) := by decide +kernel
theorem dX11_end_6 : decode cX11_end 6 = .ok (.getfield 13, 3) := by decide +kernel
theorem dX11_end_9 : decode cX11_end 9 = .ok (.if_icmp .le 5, 3) := by decide +kernel
theorem dX11_end_12 : decode cX11_end 12 = .ok (.iconst (-1), 1) := by decide +kernel
theorem dX11_end_13 : decode cX11_end 13 = .ok (.ireturn, 1) := by decide +kernel
theorem dX11_end_14 : decode cX11_end 14 = .ok (.aload_n 0, 1) := by decide +kernel
theorem dX11_end_15 : decode cX11_end 15 = .ok (.iload_n 1, 1) := by decide +kernel
theorem dX11_end_16 : decode cX11_end 16 = .ok (.putfield 13, 3) := by decide +kernel
theorem dX11_end_19 : decode cX11_end 19 = .ok (.iload_n 1, 1) := by decide +kernel
theorem dX11_end_20 : decode cX11_end 20 = .ok (.ireturn, 1) := by decide +kernel
theorem dX11_town_0 : decode cX11_town 0 = .ok (.aload_n 0, 1) := by decide +kernel
theorem dX11_town_1 : decode cX11_town 1 = .ok (.getfield 28, 3) := by decide +kernel
theorem dX11_town_4 : decode cX11_town 4 = .ok (.aload_n 0, 1) := by decide +kernel
theorem dX11_town_5 : decode cX11_town 5 = .ok (.getfield 13, 3) := by decide +kernel
theorem dX11_town_8 : decode cX11_town 8 = .ok (.iconst 0, 1) := by decide +kernel
theorem dX11_town_9 : decode cX11_town 9 = .ok (.invokevirtual 110, 3) := by decide +kernel
theorem dX11_town_12 : decode cX11_town 12 = .ok (.new 114, 3) := by decide +kernel
theorem dX11_town_15 : decode cX11_town 15 = .ok (.dup, 1) := by decide +kernel
theorem dX11_town_16 : decode cX11_town 16 = .ok (.aload_n 0, 1) := by decide +kernel
theorem dX11_town_17 : decode cX11_town 17 = .ok (.getfield 28, 3) := by decide +kernel
theorem dX11_town_20 : decode cX11_town 20 = .ok (.aload_n 0, 1) := by decide +kernel
theorem dX11_town_21 : decode cX11_town 21 = .ok (.getfield 39, 3) := by decide +kernel
theorem dX11_town_24 : decode cX11_town 24 = .ok (.invokespecial 116, 3) := by decide +kernel
theorem dX11_town_27 : decode cX11_town 27 = .ok (.invokevirtual 119, 3) := by decide +kernel
theorem dX11_town_30 : decode cX11_town 30 = .ok (.istore_n 1, 1) := by decide +kernel
theorem dX11_town_31 : decode cX11_town 31 = .ok (.aload_n 0, 1) := by decide +kernel
theorem dX11_town_32 : decode cX11_town 32 = .ok (.invokevirtual 123, 3) := by decide +kernel
theorem dX11_town_35 : decode cX11_town 35 = .ok (.aload_n 0, 1) := by decide +kernel
theorem dX11_town_36 : decode cX11_town 36 = .ok (.iconst 0, 1) := by decide +kernel
theorem dX11_town_37 : decode cX11_town 37 = .ok (.putfield 13, 3) := by decide +kernel
theorem dX11_town_40 : decode cX11_town 40 = .ok (.iload_n 1, 1) := by decide +kernel
theorem dX11_town_41 : decode cX11_town 41 = .ok (.ifCond .ne 5, 3) := by decide +kernel
theorem dX11_town_44 : decode cX11_town 44 = .ok (.iconst (-1), 1) := by decide +kernel
theorem dX11_town_45 : decode cX11_town 45 = .ok (.ireturn, 1) := by decide +kernel
theorem dX11_town_46 : decode cX11_town 46 = .ok (.aload_n 0, 1) := by decide +kernel
theorem dX11_town_47 : decode cX11_town 47 = .ok (.getfield 35, 3) := by decide +kernel
theorem dX11_town_50 : decode cX11_town 50 = .ok (.aload_n 0, 1) := by decide +kernel
theorem dX11_town_51 : decode cX11_town 51 = .ok (.getfield 39, 3) := by decide +kernel
theorem dX11_town_54 : decode cX11_town 54 = .ok (.invokevirtual 126, 3) := by decide +kernel
theorem dX11_town_57 : decode cX11_town 57 = .ok (.aload_n 0, 1) := by decide +kernel
theorem dX11_town_58 : decode cX11_town 58 = .ok (.getfield 45, 3) := by decide +kernel
theorem dX11_town_61 : decode cX11_town 61 = .ok (.invokevirtual 130, 3) := by decide +kernel
theorem dX11_town_64 : decode cX11_town 64 = .ok (.aload_n 0, 1) := by decide +kernel
theorem dX11_town_65 : decode cX11_town 65 = .ok (.getfield 55, 3) := by decide +kernel
theorem dX11_town_68 : decode cX11_town 68 = .ok (.invokevirtual 133, 3) := by decide +kernel
theorem dX11_town_71 : decode cX11_town 71 = .ok (.aload_n 0, 1) := by decide +kernel
theorem dX11_town_72 : decode cX11_town 72 = .ok (.invokevirtual 136, 3) := by decide +kernel
theorem dX11_town_75 : decode cX11_town 75 = .ok (.aload_n 0, 1) := by decide +kernel
theorem dX11_town_76 : decode cX11_town 76 = .ok (.getfield 35, 3) := by decide +kernel
theorem dX11_town_79 : decode cX11_town 79 = .ok (.getfield 139, 3) := by decide +kernel
theorem dX11_town_82 : decode cX11_town 82 = .ok (.ireturn, 1) := by decide +kernel
theorem dX11_rules_0 : decode cX11_rules 0 = .ok (.aload_n 0, 1) := by decide +kernel
theorem dX11_rules_1 : decode cX11_rules 1 = .ok (.getfield 13, 3) := by decide +kernel
theorem dX11_rules_4 : decode cX11_rules 4 = .ok (.sipush 800, 3) := by decide +kernel
theorem dX11_rules_7 : decode cX11_rules 7 = .ok (.if_icmp .le 6, 3) := by decide +kernel
theorem dX11_rules_10 : decode cX11_rules 10 = .ok (.bipush (-2), 2) := by decide +kernel
theorem dX11_rules_12 : decode cX11_rules 12 = .ok (.ireturn, 1) := by decide +kernel
theorem dX11_rules_13 : decode cX11_rules 13 = .ok (.aload_n 0, 1) := by decide +kernel
theorem dX11_rules_14 : decode cX11_rules 14 = .ok (.getfield 28, 3) := by decide +kernel
theorem dX11_rules_17 : decode cX11_rules 17 = .ok (.aload_n 0, 1) := by decide +kernel
theorem dX11_rules_18 : decode cX11_rules 18 = .ok (.getfield 13, 3) := by decide +kernel
theorem dX11_rules_21 : decode cX11_rules 21 = .ok (.iconst 1, 1) := by decide +kernel
theorem dX11_rules_22 : decode cX11_rules 22 = .ok (.invokevirtual 110, 3) := by decide +kernel
theorem dX11_rules_25 : decode cX11_rules 25 = .ok (.new 142, 3) := by decide +kernel
theorem dX11_rules_28 : decode cX11_rules 28 = .ok (.dup, 1) := by decide +kernel
theorem dX11_rules_29 : decode cX11_rules 29 = .ok (.aload_n 0, 1) := by decide +kernel
theorem dX11_rules_30 : decode cX11_rules 30 = .ok (.getfield 28, 3) := by decide +kernel
theorem dX11_rules_33 : decode cX11_rules 33 = .ok (.aload_n 0, 1) := by decide +kernel
theorem dX11_rules_34 : decode cX11_rules 34 = .ok (.getfield 49, 3) := by decide +kernel
theorem dX11_rules_37 : decode cX11_rules 37 = .ok (.aload_n 0, 1) := by decide +kernel
theorem dX11_rules_38 : decode cX11_rules 38 = .ok (.getfield 35, 3) := by decide +kernel
theorem dX11_rules_41 : decode cX11_rules 41 = .ok (.getfield 144, 3) := by decide +kernel
theorem dX11_rules_44 : decode cX11_rules 44 = .ok (.invokespecial 147, 3) := by decide +kernel
theorem dX11_rules_47 : decode cX11_rules 47 = .ok (.invokevirtual 150, 3) := by decide +kernel
theorem dX11_rules_50 : decode cX11_rules 50 = .ok (.istore_n 1, 1) := by decide +kernel
theorem dX11_rules_51 : decode cX11_rules 51 = .ok (.aload_n 0, 1) := by decide +kernel
theorem dX11_rules_52 : decode cX11_rules 52 = .ok (.invokevirtual 123, 3) := by decide +kernel
theorem dX11_rules_55 : decode cX11_rules 55 = .ok (.aload_n 0, 1) := by decide +kernel
theorem dX11_rules_56 : decode cX11_rules 56 = .ok (.iconst 0, 1) := by decide +kernel
theorem dX11_rules_57 : decode cX11_rules 57 = .ok (.putfield 13, 3) := by decide +kernel
theorem dX11_rules_60 : decode cX11_rules 60 = .ok (.iload_n 1, 1) := by decide +kernel
theorem dX11_rules_61 : decode cX11_rules 61 = .ok (.ifCond .ne 5, 3) := by decide +kernel
theorem dX11_rules_64 : decode cX11_rules 64 = .ok (.iconst (-1), 1) := by decide +kernel
theorem dX11_rules_65 : decode cX11_rules 65 = .ok (.ireturn, 1) := by decide +kernel
theorem dX11_rules_66 : decode cX11_rules 66 = .ok (.aload_n 0, 1) := by decide +kernel
theorem dX11_rules_67 : decode cX11_rules 67 = .ok (.getfield 45, 3) := by decide +kernel
theorem dX11_rules_70 : decode cX11_rules 70 = .ok (.aload_n 0, 1) := by decide +kernel
theorem dX11_rules_71 : decode cX11_rules 71 = .ok (.getfield 49, 3) := by decide +kernel
theorem dX11_rules_74 : decode cX11_rules 74 = .ok (.invokevirtual 151, 3) := by decide +kernel
theorem dX11_rules_77 : decode cX11_rules 77 = .ok (.aload_n 0, 1) := by decide +kernel
theorem dX11_rules_78 : decode cX11_rules 78 = .ok (.getfield 45, 3) := by decide +kernel
theorem dX11_rules_81 : decode cX11_rules 81 = .ok (.invokevirtual 154, 3) := by decide +kernel
theorem dX11_rules_84 : decode cX11_rules 84 = .ok (.ireturn, 1) := by decide +kernel
theorem dX11_keepFault_0 : decode cX11_keepFault 0 = .ok (.aload_n 0, 1) := by decide +kernel
theorem dX11_keepFault_1 : decode cX11_keepFault 1 = .ok (.aload_n 0, 1) := by decide +kernel
theorem dX11_keepFault_2 : decode cX11_keepFault 2 = .ok (.getfield 28, 3) := by decide +kernel
theorem dX11_keepFault_5 : decode cX11_keepFault 5 = .ok (.getfield 158, 3) := by decide +kernel
theorem dX11_keepFault_8 : decode cX11_keepFault 8 = .ok (.putfield 17, 3) := by decide +kernel
theorem dX11_keepFault_11 : decode cX11_keepFault 11 = .ok (.aload_n 0, 1) := by decide +kernel
theorem dX11_keepFault_12 : decode cX11_keepFault 12 = .ok (.aload_n 0, 1) := by decide +kernel
theorem dX11_keepFault_13 : decode cX11_keepFault 13 = .ok (.getfield 28, 3) := by decide +kernel
theorem dX11_keepFault_16 : decode cX11_keepFault 16 = .ok (.getfield 159, 3) := by decide +kernel
theorem dX11_keepFault_19 : decode cX11_keepFault 19 = .ok (.putfield 20, 3) := by decide +kernel
theorem dX11_keepFault_22 : decode cX11_keepFault 22 = .ok (.return_, 1) := by decide +kernel
theorem dX11_fault_0 : decode cX11_fault 0 = .ok (.iload_n 1, 1) := by decide +kernel
theorem dX11_fault_1 : decode cX11_fault 1 = .ok (.lookupswitch 37 #[(0, 27), (1, 32)], 27) := by decide +kernel
theorem dX11_fault_28 : decode cX11_fault 28 = .ok (.aload_n 0, 1) := by decide +kernel
theorem dX11_fault_29 : decode cX11_fault 29 = .ok (.getfield 17, 3) := by decide +kernel
theorem dX11_fault_32 : decode cX11_fault 32 = .ok (.ireturn, 1) := by decide +kernel
theorem dX11_fault_33 : decode cX11_fault 33 = .ok (.aload_n 0, 1) := by decide +kernel
theorem dX11_fault_34 : decode cX11_fault 34 = .ok (.getfield 20, 3) := by decide +kernel
theorem dX11_fault_37 : decode cX11_fault 37 = .ok (.ireturn, 1) := by decide +kernel
theorem dX11_fault_38 : decode cX11_fault 38 = .ok (.iconst (-1), 1) := by decide +kernel
theorem dX11_fault_39 : decode cX11_fault 39 = .ok (.ireturn, 1) := by decide +kernel
theorem dX11_face_0 : decode cX11_face 0 = .ok (.aload_n 0, 1) := by decide +kernel
theorem dX11_face_1 : decode cX11_face 1 = .ok (.getfield 35, 3) := by decide +kernel
theorem dX11_face_4 : decode cX11_face 4 = .ok (.iload_n 1, 1) := by decide +kernel
theorem dX11_face_5 : decode cX11_face 5 = .ok (.invokevirtual 160, 3) := by decide +kernel
theorem dX11_face_8 : decode cX11_face 8 = .ok (.ifCond .eq 25, 3) := by decide +kernel
theorem dX11_face_11 : decode cX11_face 11 = .ok (.iload_n 2, 1) := by decide +kernel
theorem dX11_face_12 : decode cX11_face 12 = .ok (.ifCond .lt 21, 3) := by decide +kernel
theorem dX11_face_15 : decode cX11_face 15 = .ok (.iload_n 2, 1) := by decide +kernel
theorem dX11_face_16 : decode cX11_face 16 = .ok (.aload_n 0, 1) := by decide +kernel
theorem dX11_face_17 : decode cX11_face 17 = .ok (.getfield 35, 3) := by decide +kernel
theorem dX11_face_20 : decode cX11_face 20 = .ok (.getfield 144, 3) := by decide +kernel
theorem dX11_face_23 : decode cX11_face 23 = .ok (.if_icmp .ge 10, 3) := by decide +kernel
theorem dX11_face_26 : decode cX11_face 26 = .ok (.iload_n 3, 1) := by decide +kernel
theorem dX11_face_27 : decode cX11_face 27 = .ok (.invokestatic 164, 3) := by decide +kernel
theorem dX11_face_30 : decode cX11_face 30 = .ok (.ifCond .ne 5, 3) := by decide +kernel
theorem dX11_face_33 : decode cX11_face 33 = .ok (.iconst (-1), 1) := by decide +kernel
theorem dX11_face_34 : decode cX11_face 34 = .ok (.ireturn, 1) := by decide +kernel
theorem dX11_face_35 : decode cX11_face 35 = .ok (.aload_n 0, 1) := by decide +kernel
theorem dX11_face_36 : decode cX11_face 36 = .ok (.getfield 35, 3) := by decide +kernel
theorem dX11_face_39 : decode cX11_face 39 = .ok (.iload_n 1, 1) := by decide +kernel
theorem dX11_face_40 : decode cX11_face 40 = .ok (.iload_n 2, 1) := by decide +kernel
theorem dX11_face_41 : decode cX11_face 41 = .ok (.iload_n 3, 1) := by decide +kernel
theorem dX11_face_42 : decode cX11_face 42 = .ok (.invokevirtual 167, 3) := by decide +kernel
theorem dX11_face_45 : decode cX11_face 45 = .ok (.ireturn, 1) := by decide +kernel
theorem dX11_far_0 : decode cX11_far 0 = .ok (.aload_n 0, 1) := by decide +kernel
theorem dX11_far_1 : decode cX11_far 1 = .ok (.getfield 35, 3) := by decide +kernel
theorem dX11_far_4 : decode cX11_far 4 = .ok (.iload_n 1, 1) := by decide +kernel
theorem dX11_far_5 : decode cX11_far 5 = .ok (.invokevirtual 160, 3) := by decide +kernel
theorem dX11_far_8 : decode cX11_far 8 = .ok (.ifCond .eq 29, 3) := by decide +kernel
theorem dX11_far_11 : decode cX11_far 11 = .ok (.aload_n 0, 1) := by decide +kernel
theorem dX11_far_12 : decode cX11_far 12 = .ok (.getfield 35, 3) := by decide +kernel
theorem dX11_far_15 : decode cX11_far 15 = .ok (.iload_n 3, 1) := by decide +kernel
theorem dX11_far_16 : decode cX11_far 16 = .ok (.invokevirtual 160, 3) := by decide +kernel
theorem dX11_far_19 : decode cX11_far 19 = .ok (.ifCond .eq 18, 3) := by decide +kernel
theorem dX11_far_22 : decode cX11_far 22 = .ok (.iload_n 2, 1) := by decide +kernel
theorem dX11_far_23 : decode cX11_far 23 = .ok (.invokestatic 164, 3) := by decide +kernel
theorem dX11_far_26 : decode cX11_far 26 = .ok (.ifCond .eq 11, 3) := by decide +kernel
theorem dX11_far_29 : decode cX11_far 29 = .ok (.iload 4, 2) := by decide +kernel
theorem dX11_far_31 : decode cX11_far 31 = .ok (.invokestatic 164, 3) := by decide +kernel
theorem dX11_far_34 : decode cX11_far 34 = .ok (.ifCond .ne 5, 3) := by decide +kernel
theorem dX11_far_37 : decode cX11_far 37 = .ok (.iconst (-1), 1) := by decide +kernel
theorem dX11_far_38 : decode cX11_far 38 = .ok (.ireturn, 1) := by decide +kernel
theorem dX11_far_39 : decode cX11_far 39 = .ok (.iconst 0, 1) := by decide +kernel
theorem dX11_far_40 : decode cX11_far 40 = .ok (.istore 5, 2) := by decide +kernel
theorem dX11_far_42 : decode cX11_far 42 = .ok (.iconst 0, 1) := by decide +kernel
theorem dX11_far_43 : decode cX11_far 43 = .ok (.istore 6, 2) := by decide +kernel
theorem dX11_far_45 : decode cX11_far 45 = .ok (.iload 6, 2) := by decide +kernel
theorem dX11_far_47 : decode cX11_far 47 = .ok (.aload_n 0, 1) := by decide +kernel
theorem dX11_far_48 : decode cX11_far 48 = .ok (.getfield 35, 3) := by decide +kernel
theorem dX11_far_51 : decode cX11_far 51 = .ok (.getfield 144, 3) := by decide +kernel
theorem dX11_far_54 : decode cX11_far 54 = .ok (.if_icmp .ge 41, 3) := by decide +kernel
theorem dX11_far_57 : decode cX11_far 57 = .ok (.iload 5, 2) := by decide +kernel
theorem dX11_far_59 : decode cX11_far 59 = .ok (.aload_n 0, 1) := by decide +kernel
theorem dX11_far_60 : decode cX11_far 60 = .ok (.getfield 35, 3) := by decide +kernel
theorem dX11_far_63 : decode cX11_far 63 = .ok (.iload_n 1, 1) := by decide +kernel
theorem dX11_far_64 : decode cX11_far 64 = .ok (.iload 6, 2) := by decide +kernel
theorem dX11_far_66 : decode cX11_far 66 = .ok (.iload_n 2, 1) := by decide +kernel
theorem dX11_far_67 : decode cX11_far 67 = .ok (.invokevirtual 167, 3) := by decide +kernel
theorem dX11_far_70 : decode cX11_far 70 = .ok (.aload_n 0, 1) := by decide +kernel
theorem dX11_far_71 : decode cX11_far 71 = .ok (.getfield 35, 3) := by decide +kernel
theorem dX11_far_74 : decode cX11_far 74 = .ok (.iload_n 3, 1) := by decide +kernel
theorem dX11_far_75 : decode cX11_far 75 = .ok (.iload 6, 2) := by decide +kernel
theorem dX11_far_77 : decode cX11_far 77 = .ok (.iload 4, 2) := by decide +kernel
theorem dX11_far_79 : decode cX11_far 79 = .ok (.invokevirtual 167, 3) := by decide +kernel
theorem dX11_far_82 : decode cX11_far 82 = .ok (.isub, 1) := by decide +kernel
theorem dX11_far_83 : decode cX11_far 83 = .ok (.invokestatic 171, 3) := by decide +kernel
theorem dX11_far_86 : decode cX11_far 86 = .ok (.iadd, 1) := by decide +kernel
theorem dX11_far_87 : decode cX11_far 87 = .ok (.istore 5, 2) := by decide +kernel
theorem dX11_far_89 : decode cX11_far 89 = .ok (.iinc 6 1, 3) := by decide +kernel
theorem dX11_far_92 : decode cX11_far 92 = .ok (.goto (-47), 3) := by decide +kernel
theorem dX11_far_95 : decode cX11_far 95 = .ok (.iload 5, 2) := by decide +kernel
theorem dX11_far_97 : decode cX11_far 97 = .ok (.ireturn, 1) := by decide +kernel
theorem dX11_passes_0 : decode cX11_passes 0 = .ok (.aload_n 0, 1) := by decide +kernel
theorem dX11_passes_1 : decode cX11_passes 1 = .ok (.getfield 35, 3) := by decide +kernel
theorem dX11_passes_4 : decode cX11_passes 4 = .ok (.iload_n 1, 1) := by decide +kernel
theorem dX11_passes_5 : decode cX11_passes 5 = .ok (.invokevirtual 160, 3) := by decide +kernel
theorem dX11_passes_8 : decode cX11_passes 8 = .ok (.ifCond .eq 23, 3) := by decide +kernel
theorem dX11_passes_11 : decode cX11_passes 11 = .ok (.aload_n 0, 1) := by decide +kernel
theorem dX11_passes_12 : decode cX11_passes 12 = .ok (.getfield 35, 3) := by decide +kernel
theorem dX11_passes_15 : decode cX11_passes 15 = .ok (.iload_n 2, 1) := by decide +kernel
theorem dX11_passes_16 : decode cX11_passes 16 = .ok (.invokevirtual 160, 3) := by decide +kernel
theorem dX11_passes_19 : decode cX11_passes 19 = .ok (.ifCond .eq 12, 3) := by decide +kernel
theorem dX11_passes_22 : decode cX11_passes 22 = .ok (.iload_n 3, 1) := by decide +kernel
theorem dX11_passes_23 : decode cX11_passes 23 = .ok (.iload 4, 2) := by decide +kernel
theorem dX11_passes_25 : decode cX11_passes 25 = .ok (.invokestatic 177, 3) := by decide +kernel
theorem dX11_passes_28 : decode cX11_passes 28 = .ok (.ifCond .ne 5, 3) := by decide +kernel
theorem dX11_passes_31 : decode cX11_passes 31 = .ok (.iconst (-1), 1) := by decide +kernel
theorem dX11_passes_32 : decode cX11_passes 32 = .ok (.ireturn, 1) := by decide +kernel
theorem dX11_passes_33 : decode cX11_passes 33 = .ok (.aload_n 0, 1) := by decide +kernel
theorem dX11_passes_34 : decode cX11_passes 34 = .ok (.getfield 75, 3) := by decide +kernel
theorem dX11_passes_37 : decode cX11_passes 37 = .ok (.iload_n 3, 1) := by decide +kernel
theorem dX11_passes_38 : decode cX11_passes 38 = .ok (.iload 4, 2) := by decide +kernel
theorem dX11_passes_40 : decode cX11_passes 40 = .ok (.invokevirtual 181, 3) := by decide +kernel
theorem dX11_passes_43 : decode cX11_passes 43 = .ok (.aload_n 0, 1) := by decide +kernel
theorem dX11_passes_44 : decode cX11_passes 44 = .ok (.getfield 75, 3) := by decide +kernel
theorem dX11_passes_47 : decode cX11_passes 47 = .ok (.iload_n 1, 1) := by decide +kernel
theorem dX11_passes_48 : decode cX11_passes 48 = .ok (.iload_n 2, 1) := by decide +kernel
theorem dX11_passes_49 : decode cX11_passes 49 = .ok (.invokevirtual 184, 3) := by decide +kernel
theorem dX11_passes_52 : decode cX11_passes 52 = .ok (.ifCond .eq 7, 3) := by decide +kernel
theorem dX11_passes_55 : decode cX11_passes 55 = .ok (.iconst 1, 1) := by decide +kernel
theorem dX11_passes_56 : decode cX11_passes 56 = .ok (.goto 4, 3) := by decide +kernel
theorem dX11_passes_59 : decode cX11_passes 59 = .ok (.iconst 0, 1) := by decide +kernel
theorem dX11_passes_60 : decode cX11_passes 60 = .ok (.ireturn, 1) := by decide +kernel
theorem dX11_mix_0 : decode cX11_mix 0 = .ok (.aload_n 0, 1) := by decide +kernel
theorem dX11_mix_1 : decode cX11_mix 1 = .ok (.iload_n 1, 1) := by decide +kernel
theorem dX11_mix_2 : decode cX11_mix 2 = .ok (.iload_n 2, 1) := by decide +kernel
theorem dX11_mix_3 : decode cX11_mix 3 = .ok (.iload_n 3, 1) := by decide +kernel
theorem dX11_mix_4 : decode cX11_mix 4 = .ok (.invokevirtual 187, 3) := by decide +kernel
theorem dX11_mix_7 : decode cX11_mix 7 = .ok (.ifCond .eq 28, 3) := by decide +kernel
theorem dX11_mix_10 : decode cX11_mix 10 = .ok (.iload 4, 2) := by decide +kernel
theorem dX11_mix_12 : decode cX11_mix 12 = .ok (.invokestatic 191, 3) := by decide +kernel
theorem dX11_mix_15 : decode cX11_mix 15 = .ok (.ifCond .eq 20, 3) := by decide +kernel
theorem dX11_mix_18 : decode cX11_mix 18 = .ok (.iload 5, 2) := by decide +kernel
theorem dX11_mix_20 : decode cX11_mix 20 = .ok (.ifCond .lt 15, 3) := by decide +kernel
theorem dX11_mix_23 : decode cX11_mix 23 = .ok (.iload 5, 2) := by decide +kernel
theorem dX11_mix_25 : decode cX11_mix 25 = .ok (.aload_n 0, 1) := by decide +kernel
theorem dX11_mix_26 : decode cX11_mix 26 = .ok (.getfield 35, 3) := by decide +kernel
theorem dX11_mix_29 : decode cX11_mix 29 = .ok (.getfield 144, 3) := by decide +kernel
theorem dX11_mix_32 : decode cX11_mix 32 = .ok (.if_icmp .lt 5, 3) := by decide +kernel
theorem dX11_mix_35 : decode cX11_mix 35 = .ok (.iconst (-1), 1) := by decide +kernel
theorem dX11_mix_36 : decode cX11_mix 36 = .ok (.ireturn, 1) := by decide +kernel
theorem dX11_mix_37 : decode cX11_mix 37 = .ok (.aload_n 0, 1) := by decide +kernel
theorem dX11_mix_38 : decode cX11_mix 38 = .ok (.getfield 68, 3) := by decide +kernel
theorem dX11_mix_41 : decode cX11_mix 41 = .ok (.iload_n 1, 1) := by decide +kernel
theorem dX11_mix_42 : decode cX11_mix 42 = .ok (.iload_n 2, 1) := by decide +kernel
theorem dX11_mix_43 : decode cX11_mix 43 = .ok (.iload_n 3, 1) := by decide +kernel
theorem dX11_mix_44 : decode cX11_mix 44 = .ok (.iload 4, 2) := by decide +kernel
theorem dX11_mix_46 : decode cX11_mix 46 = .ok (.invokevirtual 194, 3) := by decide +kernel
theorem dX11_mix_49 : decode cX11_mix 49 = .ok (.iload 5, 2) := by decide +kernel
theorem dX11_mix_51 : decode cX11_mix 51 = .ok (.iaload, 1) := by decide +kernel
theorem dX11_mix_52 : decode cX11_mix 52 = .ok (.ireturn, 1) := by decide +kernel
theorem dX11_both_0 : decode cX11_both 0 = .ok (.aload_n 0, 1) := by decide +kernel
theorem dX11_both_1 : decode cX11_both 1 = .ok (.iload_n 1, 1) := by decide +kernel
theorem dX11_both_2 : decode cX11_both 2 = .ok (.iload_n 2, 1) := by decide +kernel
theorem dX11_both_3 : decode cX11_both 3 = .ok (.iload_n 3, 1) := by decide +kernel
theorem dX11_both_4 : decode cX11_both 4 = .ok (.invokevirtual 187, 3) := by decide +kernel
theorem dX11_both_7 : decode cX11_both 7 = .ok (.ifCond .eq 13, 3) := by decide +kernel
theorem dX11_both_10 : decode cX11_both 10 = .ok (.iload 4, 2) := by decide +kernel
theorem dX11_both_12 : decode cX11_both 12 = .ok (.iload 5, 2) := by decide +kernel
theorem dX11_both_14 : decode cX11_both 14 = .ok (.invokestatic 177, 3) := by decide +kernel
theorem dX11_both_17 : decode cX11_both 17 = .ok (.ifCond .ne 5, 3) := by decide +kernel
theorem dX11_both_20 : decode cX11_both 20 = .ok (.iconst (-1), 1) := by decide +kernel
theorem dX11_both_21 : decode cX11_both 21 = .ok (.ireturn, 1) := by decide +kernel
theorem dX11_both_22 : decode cX11_both 22 = .ok (.aload_n 0, 1) := by decide +kernel
theorem dX11_both_23 : decode cX11_both 23 = .ok (.getfield 75, 3) := by decide +kernel
theorem dX11_both_26 : decode cX11_both 26 = .ok (.iload 4, 2) := by decide +kernel
theorem dX11_both_28 : decode cX11_both 28 = .ok (.iload 5, 2) := by decide +kernel
theorem dX11_both_30 : decode cX11_both 30 = .ok (.invokevirtual 181, 3) := by decide +kernel
theorem dX11_both_33 : decode cX11_both 33 = .ok (.aload_n 0, 1) := by decide +kernel
theorem dX11_both_34 : decode cX11_both 34 = .ok (.getfield 75, 3) := by decide +kernel
theorem dX11_both_37 : decode cX11_both 37 = .ok (.iload_n 1, 1) := by decide +kernel
theorem dX11_both_38 : decode cX11_both 38 = .ok (.iload_n 2, 1) := by decide +kernel
theorem dX11_both_39 : decode cX11_both 39 = .ok (.iload_n 3, 1) := by decide +kernel
theorem dX11_both_40 : decode cX11_both 40 = .ok (.invokevirtual 198, 3) := by decide +kernel
theorem dX11_both_43 : decode cX11_both 43 = .ok (.ireturn, 1) := by decide +kernel
theorem dX11_able_0 : decode cX11_able 0 = .ok (.aload_n 0, 1) := by decide +kernel
theorem dX11_able_1 : decode cX11_able 1 = .ok (.getfield 35, 3) := by decide +kernel
theorem dX11_able_4 : decode cX11_able 4 = .ok (.iload_n 1, 1) := by decide +kernel
theorem dX11_able_5 : decode cX11_able 5 = .ok (.invokevirtual 160, 3) := by decide +kernel
theorem dX11_able_8 : decode cX11_able 8 = .ok (.ifCond .eq 28, 3) := by decide +kernel
theorem dX11_able_11 : decode cX11_able 11 = .ok (.aload_n 0, 1) := by decide +kernel
theorem dX11_able_12 : decode cX11_able 12 = .ok (.getfield 35, 3) := by decide +kernel
theorem dX11_able_15 : decode cX11_able 15 = .ok (.iload_n 2, 1) := by decide +kernel
theorem dX11_able_16 : decode cX11_able 16 = .ok (.invokevirtual 160, 3) := by decide +kernel
theorem dX11_able_19 : decode cX11_able 19 = .ok (.ifCond .eq 17, 3) := by decide +kernel
theorem dX11_able_22 : decode cX11_able 22 = .ok (.iload_n 1, 1) := by decide +kernel
theorem dX11_able_23 : decode cX11_able 23 = .ok (.iload_n 2, 1) := by decide +kernel
theorem dX11_able_24 : decode cX11_able 24 = .ok (.if_icmp .ge 12, 3) := by decide +kernel
theorem dX11_able_27 : decode cX11_able 27 = .ok (.iload_n 3, 1) := by decide +kernel
theorem dX11_able_28 : decode cX11_able 28 = .ok (.iload 4, 2) := by decide +kernel
theorem dX11_able_30 : decode cX11_able 30 = .ok (.invokestatic 177, 3) := by decide +kernel
theorem dX11_able_33 : decode cX11_able 33 = .ok (.ifCond .ne 5, 3) := by decide +kernel
theorem dX11_able_36 : decode cX11_able 36 = .ok (.iconst (-1), 1) := by decide +kernel
theorem dX11_able_37 : decode cX11_able 37 = .ok (.ireturn, 1) := by decide +kernel
theorem dX11_able_38 : decode cX11_able 38 = .ok (.aload_n 0, 1) := by decide +kernel
theorem dX11_able_39 : decode cX11_able 39 = .ok (.getfield 75, 3) := by decide +kernel
theorem dX11_able_42 : decode cX11_able 42 = .ok (.iload_n 3, 1) := by decide +kernel
theorem dX11_able_43 : decode cX11_able 43 = .ok (.iload 4, 2) := by decide +kernel
theorem dX11_able_45 : decode cX11_able 45 = .ok (.invokevirtual 181, 3) := by decide +kernel
theorem dX11_able_48 : decode cX11_able 48 = .ok (.aload_n 0, 1) := by decide +kernel
theorem dX11_able_49 : decode cX11_able 49 = .ok (.getfield 75, 3) := by decide +kernel
theorem dX11_able_52 : decode cX11_able 52 = .ok (.iload_n 1, 1) := by decide +kernel
theorem dX11_able_53 : decode cX11_able 53 = .ok (.iload_n 2, 1) := by decide +kernel
theorem dX11_able_54 : decode cX11_able 54 = .ok (.invokevirtual 201, 3) := by decide +kernel
theorem dX11_able_57 : decode cX11_able 57 = .ok (.ireturn, 1) := by decide +kernel
theorem dX11_pairs_0 : decode cX11_pairs 0 = .ok (.iload_n 1, 1) := by decide +kernel
theorem dX11_pairs_1 : decode cX11_pairs 1 = .ok (.iload_n 2, 1) := by decide +kernel
theorem dX11_pairs_2 : decode cX11_pairs 2 = .ok (.invokestatic 177, 3) := by decide +kernel
theorem dX11_pairs_5 : decode cX11_pairs 5 = .ok (.ifCond .ne 5, 3) := by decide +kernel
theorem dX11_pairs_8 : decode cX11_pairs 8 = .ok (.iconst (-1), 1) := by decide +kernel
theorem dX11_pairs_9 : decode cX11_pairs 9 = .ok (.ireturn, 1) := by decide +kernel
theorem dX11_pairs_10 : decode cX11_pairs 10 = .ok (.aload_n 0, 1) := by decide +kernel
theorem dX11_pairs_11 : decode cX11_pairs 11 = .ok (.getfield 75, 3) := by decide +kernel
theorem dX11_pairs_14 : decode cX11_pairs 14 = .ok (.iload_n 1, 1) := by decide +kernel
theorem dX11_pairs_15 : decode cX11_pairs 15 = .ok (.iload_n 2, 1) := by decide +kernel
theorem dX11_pairs_16 : decode cX11_pairs 16 = .ok (.invokevirtual 181, 3) := by decide +kernel
theorem dX11_pairs_19 : decode cX11_pairs 19 = .ok (.aload_n 0, 1) := by decide +kernel
theorem dX11_pairs_20 : decode cX11_pairs 20 = .ok (.getfield 75, 3) := by decide +kernel
theorem dX11_pairs_23 : decode cX11_pairs 23 = .ok (.invokevirtual 205, 3) := by decide +kernel
theorem dX11_pairs_26 : decode cX11_pairs 26 = .ok (.ireturn, 1) := by decide +kernel
theorem dX11_pair_0 : decode cX11_pair 0 = .ok (.iload_n 1, 1) := by decide +kernel
theorem dX11_pair_1 : decode cX11_pair 1 = .ok (.ifCond .lt 11, 3) := by decide +kernel
theorem dX11_pair_4 : decode cX11_pair 4 = .ok (.iload_n 2, 1) := by decide +kernel
theorem dX11_pair_5 : decode cX11_pair 5 = .ok (.iload_n 3, 1) := by decide +kernel
theorem dX11_pair_6 : decode cX11_pair 6 = .ok (.invokestatic 177, 3) := by decide +kernel
theorem dX11_pair_9 : decode cX11_pair 9 = .ok (.ifCond .ne 5, 3) := by decide +kernel
theorem dX11_pair_12 : decode cX11_pair 12 = .ok (.iconst (-1), 1) := by decide +kernel
theorem dX11_pair_13 : decode cX11_pair 13 = .ok (.ireturn, 1) := by decide +kernel
theorem dX11_pair_14 : decode cX11_pair 14 = .ok (.aload_n 0, 1) := by decide +kernel
theorem dX11_pair_15 : decode cX11_pair 15 = .ok (.getfield 75, 3) := by decide +kernel
theorem dX11_pair_18 : decode cX11_pair 18 = .ok (.iload_n 2, 1) := by decide +kernel
theorem dX11_pair_19 : decode cX11_pair 19 = .ok (.iload_n 3, 1) := by decide +kernel
theorem dX11_pair_20 : decode cX11_pair 20 = .ok (.invokevirtual 181, 3) := by decide +kernel
theorem dX11_pair_23 : decode cX11_pair 23 = .ok (.aload_n 0, 1) := by decide +kernel
theorem dX11_pair_24 : decode cX11_pair 24 = .ok (.getfield 75, 3) := by decide +kernel
theorem dX11_pair_27 : decode cX11_pair 27 = .ok (.iload_n 1, 1) := by decide +kernel
theorem dX11_pair_28 : decode cX11_pair 28 = .ok (.invokevirtual 208, 3) := by decide +kernel
theorem dX11_pair_31 : decode cX11_pair 31 = .ok (.ireturn, 1) := by decide +kernel
theorem dX11_gate_0 : decode cX11_gate 0 = .ok (.iload_n 1, 1) := by decide +kernel
theorem dX11_gate_1 : decode cX11_gate 1 = .ok (.ifCond .lt 27, 3) := by decide +kernel
theorem dX11_gate_4 : decode cX11_gate 4 = .ok (.iload_n 1, 1) := by decide +kernel
theorem dX11_gate_5 : decode cX11_gate 5 = .ok (.iconst 1, 1) := by decide +kernel
theorem dX11_gate_6 : decode cX11_gate 6 = .ok (.if_icmp .gt 22, 3) := by decide +kernel
theorem dX11_gate_9 : decode cX11_gate 9 = .ok (.iload_n 2, 1) := by decide +kernel
theorem dX11_gate_10 : decode cX11_gate 10 = .ok (.iconst (-1), 1) := by decide +kernel
theorem dX11_gate_11 : decode cX11_gate 11 = .ok (.if_icmp .lt 17, 3) := by decide +kernel
theorem dX11_gate_14 : decode cX11_gate 14 = .ok (.iload_n 2, 1) := by decide +kernel
theorem dX11_gate_15 : decode cX11_gate 15 = .ok (.iconst 4, 1) := by decide +kernel
theorem dX11_gate_16 : decode cX11_gate 16 = .ok (.if_icmp .ge 12, 3) := by decide +kernel
theorem dX11_gate_19 : decode cX11_gate 19 = .ok (.iload_n 3, 1) := by decide +kernel
theorem dX11_gate_20 : decode cX11_gate 20 = .ok (.iload 4, 2) := by decide +kernel
theorem dX11_gate_22 : decode cX11_gate 22 = .ok (.invokestatic 177, 3) := by decide +kernel
theorem dX11_gate_25 : decode cX11_gate 25 = .ok (.ifCond .ne 5, 3) := by decide +kernel
theorem dX11_gate_28 : decode cX11_gate 28 = .ok (.iconst (-1), 1) := by decide +kernel
theorem dX11_gate_29 : decode cX11_gate 29 = .ok (.ireturn, 1) := by decide +kernel
theorem dX11_gate_30 : decode cX11_gate 30 = .ok (.aload_n 0, 1) := by decide +kernel
theorem dX11_gate_31 : decode cX11_gate 31 = .ok (.getfield 75, 3) := by decide +kernel
theorem dX11_gate_34 : decode cX11_gate 34 = .ok (.iload_n 3, 1) := by decide +kernel
theorem dX11_gate_35 : decode cX11_gate 35 = .ok (.iload 4, 2) := by decide +kernel
theorem dX11_gate_37 : decode cX11_gate 37 = .ok (.invokevirtual 181, 3) := by decide +kernel
theorem dX11_gate_40 : decode cX11_gate 40 = .ok (.iload_n 1, 1) := by decide +kernel
theorem dX11_gate_41 : decode cX11_gate 41 = .ok (.ifCond .ne 14, 3) := by decide +kernel
theorem dX11_gate_44 : decode cX11_gate 44 = .ok (.aload_n 0, 1) := by decide +kernel
theorem dX11_gate_45 : decode cX11_gate 45 = .ok (.getfield 75, 3) := by decide +kernel
theorem dX11_gate_48 : decode cX11_gate 48 = .ok (.iload_n 2, 1) := by decide +kernel
theorem dX11_gate_49 : decode cX11_gate 49 = .ok (.invokevirtual 211, 3) := by decide +kernel
theorem dX11_gate_52 : decode cX11_gate 52 = .ok (.goto 11, 3) := by decide +kernel
theorem dX11_gate_55 : decode cX11_gate 55 = .ok (.aload_n 0, 1) := by decide +kernel
theorem dX11_gate_56 : decode cX11_gate 56 = .ok (.getfield 75, 3) := by decide +kernel
theorem dX11_gate_59 : decode cX11_gate 59 = .ok (.iload_n 2, 1) := by decide +kernel
theorem dX11_gate_60 : decode cX11_gate 60 = .ok (.invokevirtual 214, 3) := by decide +kernel
theorem dX11_gate_63 : decode cX11_gate 63 = .ok (.ireturn, 1) := by decide +kernel
theorem dX11_twins_0 : decode cX11_twins 0 = .ok (.iload_n 1, 1) := by decide +kernel
theorem dX11_twins_1 : decode cX11_twins 1 = .ok (.iload_n 2, 1) := by decide +kernel
theorem dX11_twins_2 : decode cX11_twins 2 = .ok (.invokestatic 177, 3) := by decide +kernel
theorem dX11_twins_5 : decode cX11_twins 5 = .ok (.ifCond .ne 5, 3) := by decide +kernel
theorem dX11_twins_8 : decode cX11_twins 8 = .ok (.iconst (-1), 1) := by decide +kernel
theorem dX11_twins_9 : decode cX11_twins 9 = .ok (.ireturn, 1) := by decide +kernel
theorem dX11_twins_10 : decode cX11_twins 10 = .ok (.aload_n 0, 1) := by decide +kernel
theorem dX11_twins_11 : decode cX11_twins 11 = .ok (.getfield 75, 3) := by decide +kernel
theorem dX11_twins_14 : decode cX11_twins 14 = .ok (.iload_n 1, 1) := by decide +kernel
theorem dX11_twins_15 : decode cX11_twins 15 = .ok (.iload_n 2, 1) := by decide +kernel
theorem dX11_twins_16 : decode cX11_twins 16 = .ok (.invokevirtual 181, 3) := by decide +kernel
theorem dX11_twins_19 : decode cX11_twins 19 = .ok (.aload_n 0, 1) := by decide +kernel
theorem dX11_twins_20 : decode cX11_twins 20 = .ok (.getfield 75, 3) := by decide +kernel
theorem dX11_twins_23 : decode cX11_twins 23 = .ok (.invokevirtual 217, 3) := by decide +kernel
theorem dX11_twins_26 : decode cX11_twins 26 = .ok (.ireturn, 1) := by decide +kernel
theorem dX11_until_0 : decode cX11_until 0 = .ok (.aload_n 0, 1) := by decide +kernel
theorem dX11_until_1 : decode cX11_until 1 = .ok (.getfield 35, 3) := by decide +kernel
theorem dX11_until_4 : decode cX11_until 4 = .ok (.iload_n 1, 1) := by decide +kernel
theorem dX11_until_5 : decode cX11_until 5 = .ok (.invokevirtual 160, 3) := by decide +kernel
theorem dX11_until_8 : decode cX11_until 8 = .ok (.ifCond .eq 10, 3) := by decide +kernel
theorem dX11_until_11 : decode cX11_until 11 = .ok (.iload_n 2, 1) := by decide +kernel
theorem dX11_until_12 : decode cX11_until 12 = .ok (.invokestatic 220, 3) := by decide +kernel
theorem dX11_until_15 : decode cX11_until 15 = .ok (.ifCond .ne 5, 3) := by decide +kernel
theorem dX11_until_18 : decode cX11_until 18 = .ok (.iconst (-1), 1) := by decide +kernel
theorem dX11_until_19 : decode cX11_until 19 = .ok (.ireturn, 1) := by decide +kernel
theorem dX11_until_20 : decode cX11_until 20 = .ok (.iconst 0, 1) := by decide +kernel
theorem dX11_until_21 : decode cX11_until 21 = .ok (.istore_n 3, 1) := by decide +kernel
theorem dX11_until_22 : decode cX11_until 22 = .ok (.iload_n 3, 1) := by decide +kernel
theorem dX11_until_23 : decode cX11_until 23 = .ok (.bipush 60, 2) := by decide +kernel
theorem dX11_until_25 : decode cX11_until 25 = .ok (.if_icmp .gt 32, 3) := by decide +kernel
theorem dX11_until_28 : decode cX11_until 28 = .ok (.aload_n 0, 1) := by decide +kernel
theorem dX11_until_29 : decode cX11_until 29 = .ok (.getfield 75, 3) := by decide +kernel
theorem dX11_until_32 : decode cX11_until 32 = .ok (.iload_n 3, 1) := by decide +kernel
theorem dX11_until_33 : decode cX11_until 33 = .ok (.iload_n 2, 1) := by decide +kernel
theorem dX11_until_34 : decode cX11_until 34 = .ok (.invokevirtual 181, 3) := by decide +kernel
theorem dX11_until_37 : decode cX11_until 37 = .ok (.aload_n 0, 1) := by decide +kernel
theorem dX11_until_38 : decode cX11_until 38 = .ok (.getfield 75, 3) := by decide +kernel
theorem dX11_until_41 : decode cX11_until 41 = .ok (.iload_n 1, 1) := by decide +kernel
theorem dX11_until_42 : decode cX11_until 42 = .ok (.iload_n 1, 1) := by decide +kernel
theorem dX11_until_43 : decode cX11_until 43 = .ok (.invokevirtual 184, 3) := by decide +kernel
theorem dX11_until_46 : decode cX11_until 46 = .ok (.ifCond .ne 5, 3) := by decide +kernel
theorem dX11_until_49 : decode cX11_until 49 = .ok (.iload_n 3, 1) := by decide +kernel
theorem dX11_until_50 : decode cX11_until 50 = .ok (.ireturn, 1) := by decide +kernel
theorem dX11_until_51 : decode cX11_until 51 = .ok (.iinc 3 1, 3) := by decide +kernel
theorem dX11_until_54 : decode cX11_until 54 = .ok (.goto (-32), 3) := by decide +kernel
theorem dX11_until_57 : decode cX11_until 57 = .ok (.iconst (-1), 1) := by decide +kernel
theorem dX11_until_58 : decode cX11_until 58 = .ok (.ireturn, 1) := by decide +kernel
theorem dX11_signs_0 : decode cX11_signs 0 = .ok (.aload_n 0, 1) := by decide +kernel
theorem dX11_signs_1 : decode cX11_signs 1 = .ok (.iload_n 1, 1) := by decide +kernel
theorem dX11_signs_2 : decode cX11_signs 2 = .ok (.iload_n 2, 1) := by decide +kernel
theorem dX11_signs_3 : decode cX11_signs 3 = .ok (.iload_n 3, 1) := by decide +kernel
theorem dX11_signs_4 : decode cX11_signs 4 = .ok (.invokevirtual 187, 3) := by decide +kernel
theorem dX11_signs_7 : decode cX11_signs 7 = .ok (.ifCond .eq 11, 3) := by decide +kernel
theorem dX11_signs_10 : decode cX11_signs 10 = .ok (.iload 4, 2) := by decide +kernel
theorem dX11_signs_12 : decode cX11_signs 12 = .ok (.invokestatic 191, 3) := by decide +kernel
theorem dX11_signs_15 : decode cX11_signs 15 = .ok (.ifCond .ne 5, 3) := by decide +kernel
theorem dX11_signs_18 : decode cX11_signs 18 = .ok (.iconst (-1), 1) := by decide +kernel
theorem dX11_signs_19 : decode cX11_signs 19 = .ok (.ireturn, 1) := by decide +kernel
theorem dX11_signs_20 : decode cX11_signs 20 = .ok (.aload_n 0, 1) := by decide +kernel
theorem dX11_signs_21 : decode cX11_signs 21 = .ok (.getfield 68, 3) := by decide +kernel
theorem dX11_signs_24 : decode cX11_signs 24 = .ok (.iload_n 1, 1) := by decide +kernel
theorem dX11_signs_25 : decode cX11_signs 25 = .ok (.iload_n 2, 1) := by decide +kernel
theorem dX11_signs_26 : decode cX11_signs 26 = .ok (.iload_n 3, 1) := by decide +kernel
theorem dX11_signs_27 : decode cX11_signs 27 = .ok (.iload 4, 2) := by decide +kernel
theorem dX11_signs_29 : decode cX11_signs 29 = .ok (.invokevirtual 223, 3) := by decide +kernel
theorem dX11_signs_32 : decode cX11_signs 32 = .ok (.ireturn, 1) := by decide +kernel
theorem dX11_caught_0 : decode cX11_caught 0 = .ok (.iload_n 1, 1) := by decide +kernel
theorem dX11_caught_1 : decode cX11_caught 1 = .ok (.invokestatic 191, 3) := by decide +kernel
theorem dX11_caught_4 : decode cX11_caught 4 = .ok (.ifCond .eq 12, 3) := by decide +kernel
theorem dX11_caught_7 : decode cX11_caught 7 = .ok (.iload_n 2, 1) := by decide +kernel
theorem dX11_caught_8 : decode cX11_caught 8 = .ok (.ifCond .lt 8, 3) := by decide +kernel
theorem dX11_caught_11 : decode cX11_caught 11 = .ok (.iload_n 2, 1) := by decide +kernel
theorem dX11_caught_12 : decode cX11_caught 12 = .ok (.iconst 1, 1) := by decide +kernel
theorem dX11_caught_13 : decode cX11_caught 13 = .ok (.if_icmp .le 5, 3) := by decide +kernel
theorem dX11_caught_16 : decode cX11_caught 16 = .ok (.iconst (-1), 1) := by decide +kernel
theorem dX11_caught_17 : decode cX11_caught 17 = .ok (.ireturn, 1) := by decide +kernel
theorem dX11_caught_18 : decode cX11_caught 18 = .ok (.aload_n 0, 1) := by decide +kernel
theorem dX11_caught_19 : decode cX11_caught 19 = .ok (.getfield 68, 3) := by decide +kernel
theorem dX11_caught_22 : decode cX11_caught 22 = .ok (.iload_n 1, 1) := by decide +kernel
theorem dX11_caught_23 : decode cX11_caught 23 = .ok (.iload_n 2, 1) := by decide +kernel
theorem dX11_caught_24 : decode cX11_caught 24 = .ok (.invokevirtual 227, 3) := by decide +kernel
theorem dX11_caught_27 : decode cX11_caught 27 = .ok (.ireturn, 1) := by decide +kernel
theorem dX11_paper_0 : decode cX11_paper 0 = .ok (.aload_n 0, 1) := by decide +kernel
theorem dX11_paper_1 : decode cX11_paper 1 = .ok (.getfield 35, 3) := by decide +kernel
theorem dX11_paper_4 : decode cX11_paper 4 = .ok (.iload_n 1, 1) := by decide +kernel
theorem dX11_paper_5 : decode cX11_paper 5 = .ok (.invokevirtual 160, 3) := by decide +kernel
theorem dX11_paper_8 : decode cX11_paper 8 = .ok (.ifCond .eq 29, 3) := by decide +kernel
theorem dX11_paper_11 : decode cX11_paper 11 = .ok (.aload_n 0, 1) := by decide +kernel
theorem dX11_paper_12 : decode cX11_paper 12 = .ok (.getfield 35, 3) := by decide +kernel
theorem dX11_paper_15 : decode cX11_paper 15 = .ok (.iload_n 2, 1) := by decide +kernel
theorem dX11_paper_16 : decode cX11_paper 16 = .ok (.invokevirtual 160, 3) := by decide +kernel
theorem dX11_paper_19 : decode cX11_paper 19 = .ok (.ifCond .eq 18, 3) := by decide +kernel
theorem dX11_paper_22 : decode cX11_paper 22 = .ok (.iload_n 3, 1) := by decide +kernel
theorem dX11_paper_23 : decode cX11_paper 23 = .ok (.invokestatic 230, 3) := by decide +kernel
theorem dX11_paper_26 : decode cX11_paper 26 = .ok (.ifCond .eq 11, 3) := by decide +kernel
theorem dX11_paper_29 : decode cX11_paper 29 = .ok (.iload 4, 2) := by decide +kernel
theorem dX11_paper_31 : decode cX11_paper 31 = .ok (.invokestatic 233, 3) := by decide +kernel
theorem dX11_paper_34 : decode cX11_paper 34 = .ok (.ifCond .ne 5, 3) := by decide +kernel
theorem dX11_paper_37 : decode cX11_paper 37 = .ok (.iconst (-1), 1) := by decide +kernel
theorem dX11_paper_38 : decode cX11_paper 38 = .ok (.ireturn, 1) := by decide +kernel
theorem dX11_paper_39 : decode cX11_paper 39 = .ok (.aload_n 0, 1) := by decide +kernel
theorem dX11_paper_40 : decode cX11_paper 40 = .ok (.getfield 55, 3) := by decide +kernel
theorem dX11_paper_43 : decode cX11_paper 43 = .ok (.iload_n 1, 1) := by decide +kernel
theorem dX11_paper_44 : decode cX11_paper 44 = .ok (.iload_n 2, 1) := by decide +kernel
theorem dX11_paper_45 : decode cX11_paper 45 = .ok (.iload_n 3, 1) := by decide +kernel
theorem dX11_paper_46 : decode cX11_paper 46 = .ok (.iload 4, 2) := by decide +kernel
theorem dX11_paper_48 : decode cX11_paper 48 = .ok (.invokevirtual 236, 3) := by decide +kernel
theorem dX11_paper_51 : decode cX11_paper 51 = .ok (.ireturn, 1) := by decide +kernel
theorem dX11_untell_0 : decode cX11_untell 0 = .ok (.aload_n 0, 1) := by decide +kernel
theorem dX11_untell_1 : decode cX11_untell 1 = .ok (.getfield 55, 3) := by decide +kernel
theorem dX11_untell_4 : decode cX11_untell 4 = .ok (.iload_n 1, 1) := by decide +kernel
theorem dX11_untell_5 : decode cX11_untell 5 = .ok (.invokevirtual 239, 3) := by decide +kernel
theorem dX11_untell_8 : decode cX11_untell 8 = .ok (.ireturn, 1) := by decide +kernel
theorem dX11_later_0 : decode cX11_later 0 = .ok (.iload_n 1, 1) := by decide +kernel
theorem dX11_later_1 : decode cX11_later 1 = .ok (.ifCond .lt 24, 3) := by decide +kernel
theorem dX11_later_4 : decode cX11_later 4 = .ok (.iload_n 1, 1) := by decide +kernel
theorem dX11_later_5 : decode cX11_later 5 = .ok (.sipush 1000, 3) := by decide +kernel
theorem dX11_later_8 : decode cX11_later 8 = .ok (.if_icmp .gt 17, 3) := by decide +kernel
theorem dX11_later_11 : decode cX11_later 11 = .ok (.aload_n 0, 1) := by decide +kernel
theorem dX11_later_12 : decode cX11_later 12 = .ok (.getfield 55, 3) := by decide +kernel
theorem dX11_later_15 : decode cX11_later 15 = .ok (.getfield 242, 3) := by decide +kernel
theorem dX11_later_18 : decode cX11_later 18 = .ok (.iload_n 1, 1) := by decide +kernel
theorem dX11_later_19 : decode cX11_later 19 = .ok (.iadd, 1) := by decide +kernel
theorem dX11_later_20 : decode cX11_later 20 = .ok (.ldc 245, 2) := by decide +kernel
theorem dX11_later_22 : decode cX11_later 22 = .ok (.if_icmp .le 5, 3) := by decide +kernel
theorem dX11_later_25 : decode cX11_later 25 = .ok (.iconst (-1), 1) := by decide +kernel
theorem dX11_later_26 : decode cX11_later 26 = .ok (.ireturn, 1) := by decide +kernel
theorem dX11_later_27 : decode cX11_later 27 = .ok (.aload_n 0, 1) := by decide +kernel
theorem dX11_later_28 : decode cX11_later 28 = .ok (.getfield 55, 3) := by decide +kernel
theorem dX11_later_31 : decode cX11_later 31 = .ok (.dup, 1) := by decide +kernel
theorem dX11_later_32 : decode cX11_later 32 = .ok (.getfield 242, 3) := by decide +kernel
theorem dX11_later_35 : decode cX11_later 35 = .ok (.iload_n 1, 1) := by decide +kernel
theorem dX11_later_36 : decode cX11_later 36 = .ok (.iadd, 1) := by decide +kernel
theorem dX11_later_37 : decode cX11_later 37 = .ok (.putfield 242, 3) := by decide +kernel
theorem dX11_later_40 : decode cX11_later 40 = .ok (.aload_n 0, 1) := by decide +kernel
theorem dX11_later_41 : decode cX11_later 41 = .ok (.getfield 55, 3) := by decide +kernel
theorem dX11_later_44 : decode cX11_later 44 = .ok (.getfield 242, 3) := by decide +kernel
theorem dX11_later_47 : decode cX11_later 47 = .ok (.ireturn, 1) := by decide +kernel
theorem dX11_behind_0 : decode cX11_behind 0 = .ok (.iload_n 2, 1) := by decide +kernel
theorem dX11_behind_1 : decode cX11_behind 1 = .ok (.ifCond .lt 31, 3) := by decide +kernel
theorem dX11_behind_4 : decode cX11_behind 4 = .ok (.iload_n 2, 1) := by decide +kernel
theorem dX11_behind_5 : decode cX11_behind 5 = .ok (.iconst 3, 1) := by decide +kernel
theorem dX11_behind_6 : decode cX11_behind 6 = .ok (.if_icmp .gt 26, 3) := by decide +kernel
theorem dX11_behind_9 : decode cX11_behind 9 = .ok (.aload_n 0, 1) := by decide +kernel
theorem dX11_behind_10 : decode cX11_behind 10 = .ok (.getfield 55, 3) := by decide +kernel
theorem dX11_behind_13 : decode cX11_behind 13 = .ok (.iload_n 1, 1) := by decide +kernel
theorem dX11_behind_14 : decode cX11_behind 14 = .ok (.iload_n 3, 1) := by decide +kernel
theorem dX11_behind_15 : decode cX11_behind 15 = .ok (.invokevirtual 246, 3) := by decide +kernel
theorem dX11_behind_18 : decode cX11_behind 18 = .ok (.ifCond .eq 14, 3) := by decide +kernel
theorem dX11_behind_21 : decode cX11_behind 21 = .ok (.aload_n 0, 1) := by decide +kernel
theorem dX11_behind_22 : decode cX11_behind 22 = .ok (.getfield 35, 3) := by decide +kernel
theorem dX11_behind_25 : decode cX11_behind 25 = .ok (.getfield 139, 3) := by decide +kernel
theorem dX11_behind_28 : decode cX11_behind 28 = .ok (.iconst 2, 1) := by decide +kernel
theorem dX11_behind_29 : decode cX11_behind 29 = .ok (.if_icmp .ge 5, 3) := by decide +kernel
theorem dX11_behind_32 : decode cX11_behind 32 = .ok (.iconst (-1), 1) := by decide +kernel
theorem dX11_behind_33 : decode cX11_behind 33 = .ok (.ireturn, 1) := by decide +kernel
theorem dX11_behind_34 : decode cX11_behind 34 = .ok (.aload_n 0, 1) := by decide +kernel
theorem dX11_behind_35 : decode cX11_behind 35 = .ok (.getfield 93, 3) := by decide +kernel
theorem dX11_behind_38 : decode cX11_behind 38 = .ok (.iload_n 1, 1) := by decide +kernel
theorem dX11_behind_39 : decode cX11_behind 39 = .ok (.invokevirtual 249, 3) := by decide +kernel
theorem dX11_behind_42 : decode cX11_behind 42 = .ok (.iload_n 2, 1) := by decide +kernel
theorem dX11_behind_43 : decode cX11_behind 43 = .ok (.tableswitch 49 0 2 #[25, 33, 41], 25) := by decide +kernel
theorem dX11_behind_68 : decode cX11_behind 68 = .ok (.aload_n 0, 1) := by decide +kernel
theorem dX11_behind_69 : decode cX11_behind 69 = .ok (.getfield 93, 3) := by decide +kernel
theorem dX11_behind_72 : decode cX11_behind 72 = .ok (.getfield 252, 3) := by decide +kernel
theorem dX11_behind_75 : decode cX11_behind 75 = .ok (.ireturn, 1) := by decide +kernel
theorem dX11_behind_76 : decode cX11_behind 76 = .ok (.aload_n 0, 1) := by decide +kernel
theorem dX11_behind_77 : decode cX11_behind 77 = .ok (.getfield 93, 3) := by decide +kernel
theorem dX11_behind_80 : decode cX11_behind 80 = .ok (.invokevirtual 255, 3) := by decide +kernel
theorem dX11_behind_83 : decode cX11_behind 83 = .ok (.ireturn, 1) := by decide +kernel
theorem dX11_behind_84 : decode cX11_behind 84 = .ok (.aload_n 0, 1) := by decide +kernel
theorem dX11_behind_85 : decode cX11_behind 85 = .ok (.getfield 93, 3) := by decide +kernel
theorem dX11_behind_88 : decode cX11_behind 88 = .ok (.invokevirtual 258, 3) := by decide +kernel
theorem dX11_behind_91 : decode cX11_behind 91 = .ok (.ireturn, 1) := by decide +kernel
theorem dX11_behind_92 : decode cX11_behind 92 = .ok (.aload_n 0, 1) := by decide +kernel
theorem dX11_behind_93 : decode cX11_behind 93 = .ok (.getfield 93, 3) := by decide +kernel
theorem dX11_behind_96 : decode cX11_behind 96 = .ok (.invokevirtual 261, 3) := by decide +kernel
theorem dX11_behind_99 : decode cX11_behind 99 = .ok (.ifCond .eq 7, 3) := by decide +kernel
theorem dX11_behind_102 : decode cX11_behind 102 = .ok (.iconst 1, 1) := by decide +kernel
theorem dX11_behind_103 : decode cX11_behind 103 = .ok (.goto 4, 3) := by decide +kernel
theorem dX11_behind_106 : decode cX11_behind 106 = .ok (.iconst 0, 1) := by decide +kernel
theorem dX11_behind_107 : decode cX11_behind 107 = .ok (.ireturn, 1) := by decide +kernel
theorem dX11_rings_0 : decode cX11_rings 0 = .ok (.iload_n 1, 1) := by decide +kernel
theorem dX11_rings_1 : decode cX11_rings 1 = .ok (.ifCond .lt 8, 3) := by decide +kernel
theorem dX11_rings_4 : decode cX11_rings 4 = .ok (.iload_n 1, 1) := by decide +kernel
theorem dX11_rings_5 : decode cX11_rings 5 = .ok (.iconst 2, 1) := by decide +kernel
theorem dX11_rings_6 : decode cX11_rings 6 = .ok (.if_icmp .le 5, 3) := by decide +kernel
theorem dX11_rings_9 : decode cX11_rings 9 = .ok (.iconst (-1), 1) := by decide +kernel
theorem dX11_rings_10 : decode cX11_rings 10 = .ok (.ireturn, 1) := by decide +kernel
theorem dX11_rings_11 : decode cX11_rings 11 = .ok (.aload_n 0, 1) := by decide +kernel
theorem dX11_rings_12 : decode cX11_rings 12 = .ok (.getfield 102, 3) := by decide +kernel
theorem dX11_rings_15 : decode cX11_rings 15 = .ok (.iload_n 2, 1) := by decide +kernel
theorem dX11_rings_16 : decode cX11_rings 16 = .ok (.invokevirtual 264, 3) := by decide +kernel
theorem dX11_rings_19 : decode cX11_rings 19 = .ok (.iload_n 1, 1) := by decide +kernel
theorem dX11_rings_20 : decode cX11_rings 20 = .ok (.lookupswitch 44 #[(0, 28), (1, 36)], 28) := by decide +kernel
theorem dX11_rings_48 : decode cX11_rings 48 = .ok (.aload_n 0, 1) := by decide +kernel
theorem dX11_rings_49 : decode cX11_rings 49 = .ok (.getfield 102, 3) := by decide +kernel
theorem dX11_rings_52 : decode cX11_rings 52 = .ok (.getfield 267, 3) := by decide +kernel
theorem dX11_rings_55 : decode cX11_rings 55 = .ok (.ireturn, 1) := by decide +kernel
theorem dX11_rings_56 : decode cX11_rings 56 = .ok (.aload_n 0, 1) := by decide +kernel
theorem dX11_rings_57 : decode cX11_rings 57 = .ok (.getfield 102, 3) := by decide +kernel
theorem dX11_rings_60 : decode cX11_rings 60 = .ok (.invokevirtual 270, 3) := by decide +kernel
theorem dX11_rings_63 : decode cX11_rings 63 = .ok (.ireturn, 1) := by decide +kernel
theorem dX11_rings_64 : decode cX11_rings 64 = .ok (.aload_n 0, 1) := by decide +kernel
theorem dX11_rings_65 : decode cX11_rings 65 = .ok (.getfield 102, 3) := by decide +kernel
theorem dX11_rings_68 : decode cX11_rings 68 = .ok (.getfield 273, 3) := by decide +kernel
theorem dX11_rings_71 : decode cX11_rings 71 = .ok (.ireturn, 1) := by decide +kernel
theorem dX11_ring_0 : decode cX11_ring 0 = .ok (.aload_n 0, 1) := by decide +kernel
theorem dX11_ring_1 : decode cX11_ring 1 = .ok (.getfield 55, 3) := by decide +kernel
theorem dX11_ring_4 : decode cX11_ring 4 = .ok (.iload_n 1, 1) := by decide +kernel
theorem dX11_ring_5 : decode cX11_ring 5 = .ok (.iload_n 2, 1) := by decide +kernel
theorem dX11_ring_6 : decode cX11_ring 6 = .ok (.invokevirtual 246, 3) := by decide +kernel
theorem dX11_ring_9 : decode cX11_ring 9 = .ok (.ifCond .ne 5, 3) := by decide +kernel
theorem dX11_ring_12 : decode cX11_ring 12 = .ok (.iconst (-1), 1) := by decide +kernel
theorem dX11_ring_13 : decode cX11_ring 13 = .ok (.ireturn, 1) := by decide +kernel
theorem dX11_ring_14 : decode cX11_ring 14 = .ok (.aload_n 0, 1) := by decide +kernel
theorem dX11_ring_15 : decode cX11_ring 15 = .ok (.getfield 102, 3) := by decide +kernel
theorem dX11_ring_18 : decode cX11_ring 18 = .ok (.iload_n 2, 1) := by decide +kernel
theorem dX11_ring_19 : decode cX11_ring 19 = .ok (.invokevirtual 264, 3) := by decide +kernel
theorem dX11_ring_22 : decode cX11_ring 22 = .ok (.aload_n 0, 1) := by decide +kernel
theorem dX11_ring_23 : decode cX11_ring 23 = .ok (.getfield 102, 3) := by decide +kernel
theorem dX11_ring_26 : decode cX11_ring 26 = .ok (.iload_n 1, 1) := by decide +kernel
theorem dX11_ring_27 : decode cX11_ring 27 = .ok (.invokevirtual 276, 3) := by decide +kernel
theorem dX11_ring_30 : decode cX11_ring 30 = .ok (.ireturn, 1) := by decide +kernel
theorem dX11_between_0 : decode cX11_between 0 = .ok (.aload_n 0, 1) := by decide +kernel
theorem dX11_between_1 : decode cX11_between 1 = .ok (.getfield 35, 3) := by decide +kernel
theorem dX11_between_4 : decode cX11_between 4 = .ok (.iload_n 1, 1) := by decide +kernel
theorem dX11_between_5 : decode cX11_between 5 = .ok (.invokevirtual 160, 3) := by decide +kernel
theorem dX11_between_8 : decode cX11_between 8 = .ok (.ifCond .eq 14, 3) := by decide +kernel
theorem dX11_between_11 : decode cX11_between 11 = .ok (.aload_n 0, 1) := by decide +kernel
theorem dX11_between_12 : decode cX11_between 12 = .ok (.getfield 35, 3) := by decide +kernel
theorem dX11_between_15 : decode cX11_between 15 = .ok (.iload_n 2, 1) := by decide +kernel
theorem dX11_between_16 : decode cX11_between 16 = .ok (.invokevirtual 160, 3) := by decide +kernel
theorem dX11_between_19 : decode cX11_between 19 = .ok (.ifCond .ne 5, 3) := by decide +kernel
theorem dX11_between_22 : decode cX11_between 22 = .ok (.iconst (-1), 1) := by decide +kernel
theorem dX11_between_23 : decode cX11_between 23 = .ok (.ireturn, 1) := by decide +kernel
theorem dX11_between_24 : decode cX11_between 24 = .ok (.aload_n 0, 1) := by decide +kernel
theorem dX11_between_25 : decode cX11_between 25 = .ok (.getfield 35, 3) := by decide +kernel
theorem dX11_between_28 : decode cX11_between 28 = .ok (.iload_n 1, 1) := by decide +kernel
theorem dX11_between_29 : decode cX11_between 29 = .ok (.iload_n 2, 1) := by decide +kernel
theorem dX11_between_30 : decode cX11_between 30 = .ok (.invokevirtual 279, 3) := by decide +kernel
theorem dX11_between_33 : decode cX11_between 33 = .ok (.ireturn, 1) := by decide +kernel
theorem dX11_looks_0 : decode cX11_looks 0 = .ok (.iload_n 1, 1) := by decide +kernel
theorem dX11_looks_1 : decode cX11_looks 1 = .ok (.ifCond .lt 19, 3) := by decide +kernel
theorem dX11_looks_4 : decode cX11_looks 4 = .ok (.iload_n 1, 1) := by decide +kernel
theorem dX11_looks_5 : decode cX11_looks 5 = .ok (.sipush 999, 3) := by decide +kernel
theorem dX11_looks_8 : decode cX11_looks 8 = .ok (.if_icmp .gt 12, 3) := by decide +kernel
theorem dX11_looks_11 : decode cX11_looks 11 = .ok (.iload_n 2, 1) := by decide +kernel
theorem dX11_looks_12 : decode cX11_looks 12 = .ok (.ifCond .lt 8, 3) := by decide +kernel
theorem dX11_looks_15 : decode cX11_looks 15 = .ok (.iload_n 2, 1) := by decide +kernel
theorem dX11_looks_16 : decode cX11_looks 16 = .ok (.iconst 1, 1) := by decide +kernel
theorem dX11_looks_17 : decode cX11_looks 17 = .ok (.if_icmp .le 5, 3) := by decide +kernel
theorem dX11_looks_20 : decode cX11_looks 20 = .ok (.iconst (-1), 1) := by decide +kernel
theorem dX11_looks_21 : decode cX11_looks 21 = .ok (.ireturn, 1) := by decide +kernel
theorem dX11_looks_22 : decode cX11_looks 22 = .ok (.aload_n 0, 1) := by decide +kernel
theorem dX11_looks_23 : decode cX11_looks 23 = .ok (.getfield 93, 3) := by decide +kernel
theorem dX11_looks_26 : decode cX11_looks 26 = .ok (.iload_n 1, 1) := by decide +kernel
theorem dX11_looks_27 : decode cX11_looks 27 = .ok (.iload_n 3, 1) := by decide +kernel
theorem dX11_looks_28 : decode cX11_looks 28 = .ok (.invokevirtual 282, 3) := by decide +kernel
theorem dX11_looks_31 : decode cX11_looks 31 = .ok (.iload_n 2, 1) := by decide +kernel
theorem dX11_looks_32 : decode cX11_looks 32 = .ok (.ifCond .ne 13, 3) := by decide +kernel
theorem dX11_looks_35 : decode cX11_looks 35 = .ok (.aload_n 0, 1) := by decide +kernel
theorem dX11_looks_36 : decode cX11_looks 36 = .ok (.getfield 93, 3) := by decide +kernel
theorem dX11_looks_39 : decode cX11_looks 39 = .ok (.getfield 285, 3) := by decide +kernel
theorem dX11_looks_42 : decode cX11_looks 42 = .ok (.goto 10, 3) := by decide +kernel
theorem dX11_looks_45 : decode cX11_looks 45 = .ok (.aload_n 0, 1) := by decide +kernel
theorem dX11_looks_46 : decode cX11_looks 46 = .ok (.getfield 93, 3) := by decide +kernel
theorem dX11_looks_49 : decode cX11_looks 49 = .ok (.getfield 288, 3) := by decide +kernel
theorem dX11_looks_52 : decode cX11_looks 52 = .ok (.ireturn, 1) := by decide +kernel
theorem dX11_cost_0 : decode cX11_cost 0 = .ok (.iload_n 1, 1) := by decide +kernel
theorem dX11_cost_1 : decode cX11_cost 1 = .ok (.ifCond .lt 34, 3) := by decide +kernel
theorem dX11_cost_4 : decode cX11_cost 4 = .ok (.iload_n 1, 1) := by decide +kernel
theorem dX11_cost_5 : decode cX11_cost 5 = .ok (.sipush 800, 3) := by decide +kernel
theorem dX11_cost_8 : decode cX11_cost 8 = .ok (.if_icmp .gt 27, 3) := by decide +kernel
theorem dX11_cost_11 : decode cX11_cost 11 = .ok (.iload_n 2, 1) := by decide +kernel
theorem dX11_cost_12 : decode cX11_cost 12 = .ok (.invokestatic 291, 3) := by decide +kernel
theorem dX11_cost_15 : decode cX11_cost 15 = .ok (.ifCond .eq 20, 3) := by decide +kernel
theorem dX11_cost_18 : decode cX11_cost 18 = .ok (.iload_n 3, 1) := by decide +kernel
theorem dX11_cost_19 : decode cX11_cost 19 = .ok (.invokestatic 291, 3) := by decide +kernel
theorem dX11_cost_22 : decode cX11_cost 22 = .ok (.ifCond .eq 13, 3) := by decide +kernel
theorem dX11_cost_25 : decode cX11_cost 25 = .ok (.iload 4, 2) := by decide +kernel
theorem dX11_cost_27 : decode cX11_cost 27 = .ok (.iload 5, 2) := by decide +kernel
theorem dX11_cost_29 : decode cX11_cost 29 = .ok (.invokestatic 177, 3) := by decide +kernel
theorem dX11_cost_32 : decode cX11_cost 32 = .ok (.ifCond .ne 5, 3) := by decide +kernel
theorem dX11_cost_35 : decode cX11_cost 35 = .ok (.iconst (-1), 1) := by decide +kernel
theorem dX11_cost_36 : decode cX11_cost 36 = .ok (.ireturn, 1) := by decide +kernel
theorem dX11_cost_37 : decode cX11_cost 37 = .ok (.aload_n 0, 1) := by decide +kernel
theorem dX11_cost_38 : decode cX11_cost 38 = .ok (.getfield 75, 3) := by decide +kernel
theorem dX11_cost_41 : decode cX11_cost 41 = .ok (.iload 4, 2) := by decide +kernel
theorem dX11_cost_43 : decode cX11_cost 43 = .ok (.iload 5, 2) := by decide +kernel
theorem dX11_cost_45 : decode cX11_cost 45 = .ok (.invokevirtual 181, 3) := by decide +kernel
theorem dX11_cost_48 : decode cX11_cost 48 = .ok (.aload_n 0, 1) := by decide +kernel
theorem dX11_cost_49 : decode cX11_cost 49 = .ok (.getfield 84, 3) := by decide +kernel
theorem dX11_cost_52 : decode cX11_cost 52 = .ok (.iload_n 1, 1) := by decide +kernel
theorem dX11_cost_53 : decode cX11_cost 53 = .ok (.iload_n 2, 1) := by decide +kernel
theorem dX11_cost_54 : decode cX11_cost 54 = .ok (.iload_n 3, 1) := by decide +kernel
theorem dX11_cost_55 : decode cX11_cost 55 = .ok (.invokevirtual 294, 3) := by decide +kernel
theorem dX11_cost_58 : decode cX11_cost 58 = .ok (.ireturn, 1) := by decide +kernel
theorem dX11_bestBar_0 : decode cX11_bestBar 0 = .ok (.iload_n 1, 1) := by decide +kernel
theorem dX11_bestBar_1 : decode cX11_bestBar 1 = .ok (.invokestatic 291, 3) := by decide +kernel
theorem dX11_bestBar_4 : decode cX11_bestBar 4 = .ok (.ifCond .eq 19, 3) := by decide +kernel
theorem dX11_bestBar_7 : decode cX11_bestBar 7 = .ok (.iload_n 2, 1) := by decide +kernel
theorem dX11_bestBar_8 : decode cX11_bestBar 8 = .ok (.invokestatic 291, 3) := by decide +kernel
theorem dX11_bestBar_11 : decode cX11_bestBar 11 = .ok (.ifCond .eq 12, 3) := by decide +kernel
theorem dX11_bestBar_14 : decode cX11_bestBar 14 = .ok (.iload_n 3, 1) := by decide +kernel
theorem dX11_bestBar_15 : decode cX11_bestBar 15 = .ok (.iload 4, 2) := by decide +kernel
theorem dX11_bestBar_17 : decode cX11_bestBar 17 = .ok (.invokestatic 177, 3) := by decide +kernel
theorem dX11_bestBar_20 : decode cX11_bestBar 20 = .ok (.ifCond .ne 5, 3) := by decide +kernel
theorem dX11_bestBar_23 : decode cX11_bestBar 23 = .ok (.iconst (-1), 1) := by decide +kernel
theorem dX11_bestBar_24 : decode cX11_bestBar 24 = .ok (.ireturn, 1) := by decide +kernel
theorem dX11_bestBar_25 : decode cX11_bestBar 25 = .ok (.aload_n 0, 1) := by decide +kernel
theorem dX11_bestBar_26 : decode cX11_bestBar 26 = .ok (.getfield 75, 3) := by decide +kernel
theorem dX11_bestBar_29 : decode cX11_bestBar 29 = .ok (.iload_n 3, 1) := by decide +kernel
theorem dX11_bestBar_30 : decode cX11_bestBar 30 = .ok (.iload 4, 2) := by decide +kernel
theorem dX11_bestBar_32 : decode cX11_bestBar 32 = .ok (.invokevirtual 181, 3) := by decide +kernel
theorem dX11_bestBar_35 : decode cX11_bestBar 35 = .ok (.aload_n 0, 1) := by decide +kernel
theorem dX11_bestBar_36 : decode cX11_bestBar 36 = .ok (.getfield 84, 3) := by decide +kernel
theorem dX11_bestBar_39 : decode cX11_bestBar 39 = .ok (.iload_n 1, 1) := by decide +kernel
theorem dX11_bestBar_40 : decode cX11_bestBar 40 = .ok (.iload_n 2, 1) := by decide +kernel
theorem dX11_bestBar_41 : decode cX11_bestBar 41 = .ok (.invokevirtual 297, 3) := by decide +kernel
theorem dX11_bestBar_44 : decode cX11_bestBar 44 = .ok (.ireturn, 1) := by decide +kernel
theorem dX11_fair_0 : decode cX11_fair 0 = .ok (.iload_n 1, 1) := by decide +kernel
theorem dX11_fair_1 : decode cX11_fair 1 = .ok (.ifCond .lt 28, 3) := by decide +kernel
theorem dX11_fair_4 : decode cX11_fair 4 = .ok (.iload_n 1, 1) := by decide +kernel
theorem dX11_fair_5 : decode cX11_fair 5 = .ok (.bipush 100, 2) := by decide +kernel
theorem dX11_fair_7 : decode cX11_fair 7 = .ok (.if_icmp .gt 22, 3) := by decide +kernel
theorem dX11_fair_10 : decode cX11_fair 10 = .ok (.iload_n 2, 1) := by decide +kernel
theorem dX11_fair_11 : decode cX11_fair 11 = .ok (.iload_n 3, 1) := by decide +kernel
theorem dX11_fair_12 : decode cX11_fair 12 = .ok (.invokestatic 177, 3) := by decide +kernel
theorem dX11_fair_15 : decode cX11_fair 15 = .ok (.ifCond .eq 14, 3) := by decide +kernel
theorem dX11_fair_18 : decode cX11_fair 18 = .ok (.iload 4, 2) := by decide +kernel
theorem dX11_fair_20 : decode cX11_fair 20 = .ok (.ifCond .lt 9, 3) := by decide +kernel
theorem dX11_fair_23 : decode cX11_fair 23 = .ok (.iload 4, 2) := by decide +kernel
theorem dX11_fair_25 : decode cX11_fair 25 = .ok (.iconst 4, 1) := by decide +kernel
theorem dX11_fair_26 : decode cX11_fair 26 = .ok (.if_icmp .le 5, 3) := by decide +kernel
theorem dX11_fair_29 : decode cX11_fair 29 = .ok (.iconst (-1), 1) := by decide +kernel
theorem dX11_fair_30 : decode cX11_fair 30 = .ok (.ireturn, 1) := by decide +kernel
theorem dX11_fair_31 : decode cX11_fair 31 = .ok (.aload_n 0, 1) := by decide +kernel
theorem dX11_fair_32 : decode cX11_fair 32 = .ok (.getfield 75, 3) := by decide +kernel
theorem dX11_fair_35 : decode cX11_fair 35 = .ok (.iload_n 2, 1) := by decide +kernel
theorem dX11_fair_36 : decode cX11_fair 36 = .ok (.iload_n 3, 1) := by decide +kernel
theorem dX11_fair_37 : decode cX11_fair 37 = .ok (.invokevirtual 181, 3) := by decide +kernel
theorem dX11_fair_40 : decode cX11_fair 40 = .ok (.iload 4, 2) := by decide +kernel
theorem dX11_fair_42 : decode cX11_fair 42 = .ok (.iconst 4, 1) := by decide +kernel
theorem dX11_fair_43 : decode cX11_fair 43 = .ok (.if_icmp .ge 16, 3) := by decide +kernel
theorem dX11_fair_46 : decode cX11_fair 46 = .ok (.aload_n 0, 1) := by decide +kernel
theorem dX11_fair_47 : decode cX11_fair 47 = .ok (.getfield 84, 3) := by decide +kernel
theorem dX11_fair_50 : decode cX11_fair 50 = .ok (.iload 4, 2) := by decide +kernel
theorem dX11_fair_52 : decode cX11_fair 52 = .ok (.iload_n 1, 1) := by decide +kernel
theorem dX11_fair_53 : decode cX11_fair 53 = .ok (.invokevirtual 300, 3) := by decide +kernel
theorem dX11_fair_56 : decode cX11_fair 56 = .ok (.goto 11, 3) := by decide +kernel
theorem dX11_fair_59 : decode cX11_fair 59 = .ok (.aload_n 0, 1) := by decide +kernel
theorem dX11_fair_60 : decode cX11_fair 60 = .ok (.getfield 84, 3) := by decide +kernel
theorem dX11_fair_63 : decode cX11_fair 63 = .ok (.iload_n 1, 1) := by decide +kernel
theorem dX11_fair_64 : decode cX11_fair 64 = .ok (.invokevirtual 303, 3) := by decide +kernel
theorem dX11_fair_67 : decode cX11_fair 67 = .ok (.ireturn, 1) := by decide +kernel
theorem dX11_measure_0 : decode cX11_measure 0 = .ok (.iload_n 1, 1) := by decide +kernel
theorem dX11_measure_1 : decode cX11_measure 1 = .ok (.ifCond .lt 17, 3) := by decide +kernel
theorem dX11_measure_4 : decode cX11_measure 4 = .ok (.iload_n 1, 1) := by decide +kernel
theorem dX11_measure_5 : decode cX11_measure 5 = .ok (.iconst 4, 1) := by decide +kernel
theorem dX11_measure_6 : decode cX11_measure 6 = .ok (.if_icmp .ge 12, 3) := by decide +kernel
theorem dX11_measure_9 : decode cX11_measure 9 = .ok (.iload_n 2, 1) := by decide +kernel
theorem dX11_measure_10 : decode cX11_measure 10 = .ok (.ifCond .lt 8, 3) := by decide +kernel
theorem dX11_measure_13 : decode cX11_measure 13 = .ok (.iload_n 2, 1) := by decide +kernel
theorem dX11_measure_14 : decode cX11_measure 14 = .ok (.iconst 4, 1) := by decide +kernel
theorem dX11_measure_15 : decode cX11_measure 15 = .ok (.if_icmp .lt 5, 3) := by decide +kernel
theorem dX11_measure_18 : decode cX11_measure 18 = .ok (.iconst (-1), 1) := by decide +kernel
theorem dX11_measure_19 : decode cX11_measure 19 = .ok (.ireturn, 1) := by decide +kernel
theorem dX11_measure_20 : decode cX11_measure 20 = .ok (.aload_n 0, 1) := by decide +kernel
theorem dX11_measure_21 : decode cX11_measure 21 = .ok (.getfield 35, 3) := by decide +kernel
theorem dX11_measure_24 : decode cX11_measure 24 = .ok (.iload_n 1, 1) := by decide +kernel
theorem dX11_measure_25 : decode cX11_measure 25 = .ok (.iload_n 2, 1) := by decide +kernel
theorem dX11_measure_26 : decode cX11_measure 26 = .ok (.invokevirtual 306, 3) := by decide +kernel
theorem dX11_measure_29 : decode cX11_measure 29 = .ok (.ireturn, 1) := by decide +kernel
theorem dX11_image_0 : decode cX11_image 0 = .ok (.aload_n 0, 1) := by decide +kernel
theorem dX11_image_1 : decode cX11_image 1 = .ok (.iload_n 1, 1) := by decide +kernel
theorem dX11_image_2 : decode cX11_image 2 = .ok (.invokevirtual 309, 3) := by decide +kernel
theorem dX11_image_5 : decode cX11_image 5 = .ok (.astore_n 2, 1) := by decide +kernel
theorem dX11_image_6 : decode cX11_image 6 = .ok (.aload_n 2, 1) := by decide +kernel
theorem dX11_image_7 : decode cX11_image 7 = .ok (.ifnonnull 5, 3) := by decide +kernel
theorem dX11_image_10 : decode cX11_image 10 = .ok (.iconst (-1), 1) := by decide +kernel
theorem dX11_image_11 : decode cX11_image 11 = .ok (.ireturn, 1) := by decide +kernel
theorem dX11_image_12 : decode cX11_image 12 = .ok (.aload_n 2, 1) := by decide +kernel
theorem dX11_image_13 : decode cX11_image 13 = .ok (.aload_n 0, 1) := by decide +kernel
theorem dX11_image_14 : decode cX11_image 14 = .ok (.getfield 55, 3) := by decide +kernel
theorem dX11_image_17 : decode cX11_image 17 = .ok (.invokevirtual 313, 3) := by decide +kernel
theorem dX11_image_20 : decode cX11_image 20 = .ok (.aload_n 2, 1) := by decide +kernel
theorem dX11_image_21 : decode cX11_image 21 = .ok (.iconst 1, 1) := by decide +kernel
theorem dX11_image_22 : decode cX11_image 22 = .ok (.putfield 316, 3) := by decide +kernel
theorem dX11_image_25 : decode cX11_image 25 = .ok (.aload_n 0, 1) := by decide +kernel
theorem dX11_image_26 : decode cX11_image 26 = .ok (.getfield 55, 3) := by decide +kernel
theorem dX11_image_29 : decode cX11_image 29 = .ok (.getfield 320, 3) := by decide +kernel
theorem dX11_image_32 : decode cX11_image 32 = .ok (.ireturn, 1) := by decide +kernel
theorem dX11_back_0 : decode cX11_back 0 = .ok (.aload_n 0, 1) := by decide +kernel
theorem dX11_back_1 : decode cX11_back 1 = .ok (.iload_n 1, 1) := by decide +kernel
theorem dX11_back_2 : decode cX11_back 2 = .ok (.invokevirtual 309, 3) := by decide +kernel
theorem dX11_back_5 : decode cX11_back 5 = .ok (.astore_n 2, 1) := by decide +kernel
theorem dX11_back_6 : decode cX11_back 6 = .ok (.aload_n 2, 1) := by decide +kernel
theorem dX11_back_7 : decode cX11_back 7 = .ok (.ifnull 10, 3) := by decide +kernel
theorem dX11_back_10 : decode cX11_back 10 = .ok (.aload_n 2, 1) := by decide +kernel
theorem dX11_back_11 : decode cX11_back 11 = .ok (.getfield 316, 3) := by decide +kernel
theorem dX11_back_14 : decode cX11_back 14 = .ok (.ifCond .ne 5, 3) := by decide +kernel
theorem dX11_back_17 : decode cX11_back 17 = .ok (.iconst (-1), 1) := by decide +kernel
theorem dX11_back_18 : decode cX11_back 18 = .ok (.ireturn, 1) := by decide +kernel
theorem dX11_back_19 : decode cX11_back 19 = .ok (.aload_n 0, 1) := by decide +kernel
theorem dX11_back_20 : decode cX11_back 20 = .ok (.getfield 55, 3) := by decide +kernel
theorem dX11_back_23 : decode cX11_back 23 = .ok (.aload_n 2, 1) := by decide +kernel
theorem dX11_back_24 : decode cX11_back 24 = .ok (.invokevirtual 313, 3) := by decide +kernel
theorem dX11_back_27 : decode cX11_back 27 = .ok (.aload_n 0, 1) := by decide +kernel
theorem dX11_back_28 : decode cX11_back 28 = .ok (.getfield 55, 3) := by decide +kernel
theorem dX11_back_31 : decode cX11_back 31 = .ok (.getfield 320, 3) := by decide +kernel
theorem dX11_back_34 : decode cX11_back 34 = .ok (.ireturn, 1) := by decide +kernel
theorem dX11_about_0 : decode cX11_about 0 = .ok (.iload_n 1, 1) := by decide +kernel
theorem dX11_about_1 : decode cX11_about 1 = .ok (.tableswitch 120 0 8 #[51, 59, 67, 75, 83, 91, 96, 104, 112], 51) := by decide +kernel
theorem dX11_about_52 : decode cX11_about 52 = .ok (.aload_n 0, 1) := by decide +kernel
theorem dX11_about_53 : decode cX11_about 53 = .ok (.getfield 35, 3) := by decide +kernel
theorem dX11_about_56 : decode cX11_about 56 = .ok (.getfield 139, 3) := by decide +kernel
theorem dX11_about_59 : decode cX11_about 59 = .ok (.ireturn, 1) := by decide +kernel
theorem dX11_about_60 : decode cX11_about 60 = .ok (.aload_n 0, 1) := by decide +kernel
theorem dX11_about_61 : decode cX11_about 61 = .ok (.getfield 35, 3) := by decide +kernel
theorem dX11_about_64 : decode cX11_about 64 = .ok (.getfield 144, 3) := by decide +kernel
theorem dX11_about_67 : decode cX11_about 67 = .ok (.ireturn, 1) := by decide +kernel
theorem dX11_about_68 : decode cX11_about 68 = .ok (.aload_n 0, 1) := by decide +kernel
theorem dX11_about_69 : decode cX11_about 69 = .ok (.getfield 45, 3) := by decide +kernel
theorem dX11_about_72 : decode cX11_about 72 = .ok (.getfield 323, 3) := by decide +kernel
theorem dX11_about_75 : decode cX11_about 75 = .ok (.ireturn, 1) := by decide +kernel
theorem dX11_about_76 : decode cX11_about 76 = .ok (.aload_n 0, 1) := by decide +kernel
theorem dX11_about_77 : decode cX11_about 77 = .ok (.getfield 55, 3) := by decide +kernel
theorem dX11_about_80 : decode cX11_about 80 = .ok (.getfield 320, 3) := by decide +kernel
theorem dX11_about_83 : decode cX11_about 83 = .ok (.ireturn, 1) := by decide +kernel
theorem dX11_about_84 : decode cX11_about 84 = .ok (.aload_n 0, 1) := by decide +kernel
theorem dX11_about_85 : decode cX11_about 85 = .ok (.getfield 55, 3) := by decide +kernel
theorem dX11_about_88 : decode cX11_about 88 = .ok (.getfield 242, 3) := by decide +kernel
theorem dX11_about_91 : decode cX11_about 91 = .ok (.ireturn, 1) := by decide +kernel
theorem dX11_about_92 : decode cX11_about 92 = .ok (.aload_n 0, 1) := by decide +kernel
theorem dX11_about_93 : decode cX11_about 93 = .ok (.getfield 13, 3) := by decide +kernel
theorem dX11_about_96 : decode cX11_about 96 = .ok (.ireturn, 1) := by decide +kernel
theorem dX11_about_97 : decode cX11_about 97 = .ok (.aload_n 0, 1) := by decide +kernel
theorem dX11_about_98 : decode cX11_about 98 = .ok (.getfield 45, 3) := by decide +kernel
theorem dX11_about_101 : decode cX11_about 101 = .ok (.getfield 326, 3) := by decide +kernel
theorem dX11_about_104 : decode cX11_about 104 = .ok (.ireturn, 1) := by decide +kernel
theorem dX11_about_105 : decode cX11_about 105 = .ok (.aload_n 0, 1) := by decide +kernel
theorem dX11_about_106 : decode cX11_about 106 = .ok (.getfield 35, 3) := by decide +kernel
theorem dX11_about_109 : decode cX11_about 109 = .ok (.getfield 329, 3) := by decide +kernel
theorem dX11_about_112 : decode cX11_about 112 = .ok (.ireturn, 1) := by decide +kernel
theorem dX11_about_113 : decode cX11_about 113 = .ok (.aload_n 0, 1) := by decide +kernel
theorem dX11_about_114 : decode cX11_about 114 = .ok (.getfield 35, 3) := by decide +kernel
theorem dX11_about_117 : decode cX11_about 117 = .ok (.getfield 332, 3) := by decide +kernel
theorem dX11_about_120 : decode cX11_about 120 = .ok (.ireturn, 1) := by decide +kernel
theorem dX11_about_121 : decode cX11_about 121 = .ok (.iconst (-1), 1) := by decide +kernel
theorem dX11_about_122 : decode cX11_about 122 = .ok (.ireturn, 1) := by decide +kernel
theorem dX11_boxAt_0 : decode cX11_boxAt 0 = .ok (.iload_n 1, 1) := by decide +kernel
theorem dX11_boxAt_1 : decode cX11_boxAt 1 = .ok (.ifCond .lt 17, 3) := by decide +kernel
theorem dX11_boxAt_4 : decode cX11_boxAt 4 = .ok (.iload_n 1, 1) := by decide +kernel
theorem dX11_boxAt_5 : decode cX11_boxAt 5 = .ok (.iconst 3, 1) := by decide +kernel
theorem dX11_boxAt_6 : decode cX11_boxAt 6 = .ok (.if_icmp .ge 12, 3) := by decide +kernel
theorem dX11_boxAt_9 : decode cX11_boxAt 9 = .ok (.aload_n 0, 1) := by decide +kernel
theorem dX11_boxAt_10 : decode cX11_boxAt 10 = .ok (.getfield 59, 3) := by decide +kernel
theorem dX11_boxAt_13 : decode cX11_boxAt 13 = .ok (.iload_n 1, 1) := by decide +kernel
theorem dX11_boxAt_14 : decode cX11_boxAt 14 = .ok (.aaload, 1) := by decide +kernel
theorem dX11_boxAt_15 : decode cX11_boxAt 15 = .ok (.goto 4, 3) := by decide +kernel
theorem dX11_boxAt_18 : decode cX11_boxAt 18 = .ok (.aconst_null, 1) := by decide +kernel
theorem dX11_boxAt_19 : decode cX11_boxAt 19 = .ok (.areturn, 1) := by decide +kernel
theorem dX11_emptyBoxes_0 : decode cX11_emptyBoxes 0 = .ok (.iconst 0, 1) := by decide +kernel
theorem dX11_emptyBoxes_1 : decode cX11_emptyBoxes 1 = .ok (.istore_n 1, 1) := by decide +kernel
theorem dX11_emptyBoxes_2 : decode cX11_emptyBoxes 2 = .ok (.iload_n 1, 1) := by decide +kernel
theorem dX11_emptyBoxes_3 : decode cX11_emptyBoxes 3 = .ok (.iconst 3, 1) := by decide +kernel
theorem dX11_emptyBoxes_4 : decode cX11_emptyBoxes 4 = .ok (.if_icmp .ge 24, 3) := by decide +kernel
theorem dX11_emptyBoxes_7 : decode cX11_emptyBoxes 7 = .ok (.aload_n 0, 1) := by decide +kernel
theorem dX11_emptyBoxes_8 : decode cX11_emptyBoxes 8 = .ok (.iload_n 1, 1) := by decide +kernel
theorem dX11_emptyBoxes_9 : decode cX11_emptyBoxes 9 = .ok (.invokevirtual 309, 3) := by decide +kernel
theorem dX11_emptyBoxes_12 : decode cX11_emptyBoxes 12 = .ok (.astore_n 2, 1) := by decide +kernel
theorem dX11_emptyBoxes_13 : decode cX11_emptyBoxes 13 = .ok (.aload_n 2, 1) := by decide +kernel
theorem dX11_emptyBoxes_14 : decode cX11_emptyBoxes 14 = .ok (.ifnull 8, 3) := by decide +kernel
theorem dX11_emptyBoxes_17 : decode cX11_emptyBoxes 17 = .ok (.aload_n 2, 1) := by decide +kernel
theorem dX11_emptyBoxes_18 : decode cX11_emptyBoxes 18 = .ok (.iconst 0, 1) := by decide +kernel
theorem dX11_emptyBoxes_19 : decode cX11_emptyBoxes 19 = .ok (.putfield 316, 3) := by decide +kernel
theorem dX11_emptyBoxes_22 : decode cX11_emptyBoxes 22 = .ok (.iinc 1 1, 3) := by decide +kernel
theorem dX11_emptyBoxes_25 : decode cX11_emptyBoxes 25 = .ok (.goto (-23), 3) := by decide +kernel
theorem dX11_emptyBoxes_28 : decode cX11_emptyBoxes 28 = .ok (.return_, 1) := by decide +kernel
theorem dX11_isMix_0 : decode cX11_isMix 0 = .ok (.aload_n 0, 1) := by decide +kernel
theorem dX11_isMix_1 : decode cX11_isMix 1 = .ok (.getfield 35, 3) := by decide +kernel
theorem dX11_isMix_4 : decode cX11_isMix 4 = .ok (.iload_n 1, 1) := by decide +kernel
theorem dX11_isMix_5 : decode cX11_isMix 5 = .ok (.invokevirtual 160, 3) := by decide +kernel
theorem dX11_isMix_8 : decode cX11_isMix 8 = .ok (.ifCond .eq 30, 3) := by decide +kernel
theorem dX11_isMix_11 : decode cX11_isMix 11 = .ok (.aload_n 0, 1) := by decide +kernel
theorem dX11_isMix_12 : decode cX11_isMix 12 = .ok (.getfield 35, 3) := by decide +kernel
theorem dX11_isMix_15 : decode cX11_isMix 15 = .ok (.iload_n 2, 1) := by decide +kernel
theorem dX11_isMix_16 : decode cX11_isMix 16 = .ok (.invokevirtual 160, 3) := by decide +kernel
theorem dX11_isMix_19 : decode cX11_isMix 19 = .ok (.ifCond .eq 19, 3) := by decide +kernel
theorem dX11_isMix_22 : decode cX11_isMix 22 = .ok (.iload_n 1, 1) := by decide +kernel
theorem dX11_isMix_23 : decode cX11_isMix 23 = .ok (.iload_n 2, 1) := by decide +kernel
theorem dX11_isMix_24 : decode cX11_isMix 24 = .ok (.if_icmp .eq 14, 3) := by decide +kernel
theorem dX11_isMix_27 : decode cX11_isMix 27 = .ok (.iload_n 3, 1) := by decide +kernel
theorem dX11_isMix_28 : decode cX11_isMix 28 = .ok (.invokestatic 230, 3) := by decide +kernel
theorem dX11_isMix_31 : decode cX11_isMix 31 = .ok (.ifCond .eq 7, 3) := by decide +kernel
theorem dX11_isMix_34 : decode cX11_isMix 34 = .ok (.iconst 1, 1) := by decide +kernel
theorem dX11_isMix_35 : decode cX11_isMix 35 = .ok (.goto 4, 3) := by decide +kernel
theorem dX11_isMix_38 : decode cX11_isMix 38 = .ok (.iconst 0, 1) := by decide +kernel
theorem dX11_isMix_39 : decode cX11_isMix 39 = .ok (.ireturn, 1) := by decide +kernel
theorem dX11_isShare_0 : decode cX11_isShare 0 = .ok (.iload_n 0, 1) := by decide +kernel
theorem dX11_isShare_1 : decode cX11_isShare 1 = .ok (.ifCond .lt 13, 3) := by decide +kernel
theorem dX11_isShare_4 : decode cX11_isShare 4 = .ok (.iload_n 0, 1) := by decide +kernel
theorem dX11_isShare_5 : decode cX11_isShare 5 = .ok (.bipush 10, 2) := by decide +kernel
theorem dX11_isShare_7 : decode cX11_isShare 7 = .ok (.if_icmp .gt 7, 3) := by decide +kernel
theorem dX11_isShare_10 : decode cX11_isShare 10 = .ok (.iconst 1, 1) := by decide +kernel
theorem dX11_isShare_11 : decode cX11_isShare 11 = .ok (.goto 4, 3) := by decide +kernel
theorem dX11_isShare_14 : decode cX11_isShare 14 = .ok (.iconst 0, 1) := by decide +kernel
theorem dX11_isShare_15 : decode cX11_isShare 15 = .ok (.ireturn, 1) := by decide +kernel
theorem dX11_isPrinterOrNot_0 : decode cX11_isPrinterOrNot 0 = .ok (.iload_n 0, 1) := by decide +kernel
theorem dX11_isPrinterOrNot_1 : decode cX11_isPrinterOrNot 1 = .ok (.iconst (-1), 1) := by decide +kernel
theorem dX11_isPrinterOrNot_2 : decode cX11_isPrinterOrNot 2 = .ok (.if_icmp .lt 12, 3) := by decide +kernel
theorem dX11_isPrinterOrNot_5 : decode cX11_isPrinterOrNot 5 = .ok (.iload_n 0, 1) := by decide +kernel
theorem dX11_isPrinterOrNot_6 : decode cX11_isPrinterOrNot 6 = .ok (.iconst 4, 1) := by decide +kernel
theorem dX11_isPrinterOrNot_7 : decode cX11_isPrinterOrNot 7 = .ok (.if_icmp .ge 7, 3) := by decide +kernel
theorem dX11_isPrinterOrNot_10 : decode cX11_isPrinterOrNot 10 = .ok (.iconst 1, 1) := by decide +kernel
theorem dX11_isPrinterOrNot_11 : decode cX11_isPrinterOrNot 11 = .ok (.goto 4, 3) := by decide +kernel
theorem dX11_isPrinterOrNot_14 : decode cX11_isPrinterOrNot 14 = .ok (.iconst 0, 1) := by decide +kernel
theorem dX11_isPrinterOrNot_15 : decode cX11_isPrinterOrNot 15 = .ok (.ireturn, 1) := by decide +kernel
theorem dX11_isYear_0 : decode cX11_isYear 0 = .ok (.iload_n 0, 1) := by decide +kernel
theorem dX11_isYear_1 : decode cX11_isYear 1 = .ok (.ifCond .lt 13, 3) := by decide +kernel
theorem dX11_isYear_4 : decode cX11_isYear 4 = .ok (.iload_n 0, 1) := by decide +kernel
theorem dX11_isYear_5 : decode cX11_isYear 5 = .ok (.bipush 60, 2) := by decide +kernel
theorem dX11_isYear_7 : decode cX11_isYear 7 = .ok (.if_icmp .gt 7, 3) := by decide +kernel
theorem dX11_isYear_10 : decode cX11_isYear 10 = .ok (.iconst 1, 1) := by decide +kernel
theorem dX11_isYear_11 : decode cX11_isYear 11 = .ok (.goto 4, 3) := by decide +kernel
theorem dX11_isYear_14 : decode cX11_isYear 14 = .ok (.iconst 0, 1) := by decide +kernel
theorem dX11_isYear_15 : decode cX11_isYear 15 = .ok (.ireturn, 1) := by decide +kernel
theorem dX11_isLight_0 : decode cX11_isLight 0 = .ok (.iload_n 0, 1) := by decide +kernel
theorem dX11_isLight_1 : decode cX11_isLight 1 = .ok (.ifCond .lt 13, 3) := by decide +kernel
theorem dX11_isLight_4 : decode cX11_isLight 4 = .ok (.iload_n 0, 1) := by decide +kernel
theorem dX11_isLight_5 : decode cX11_isLight 5 = .ok (.bipush 9, 2) := by decide +kernel
theorem dX11_isLight_7 : decode cX11_isLight 7 = .ok (.if_icmp .gt 7, 3) := by decide +kernel
theorem dX11_isLight_10 : decode cX11_isLight 10 = .ok (.iconst 1, 1) := by decide +kernel
theorem dX11_isLight_11 : decode cX11_isLight 11 = .ok (.goto 4, 3) := by decide +kernel
theorem dX11_isLight_14 : decode cX11_isLight 14 = .ok (.iconst 0, 1) := by decide +kernel
theorem dX11_isLight_15 : decode cX11_isLight 15 = .ok (.ireturn, 1) := by decide +kernel
theorem dX11_isWhen_0 : decode cX11_isWhen 0 = .ok (.iload_n 0, 1) := by decide +kernel
theorem dX11_isWhen_1 : decode cX11_isWhen 1 = .ok (.invokestatic 164, 3) := by decide +kernel
theorem dX11_isWhen_4 : decode cX11_isWhen 4 = .ok (.ifCond .eq 14, 3) := by decide +kernel
theorem dX11_isWhen_7 : decode cX11_isWhen 7 = .ok (.iload_n 1, 1) := by decide +kernel
theorem dX11_isWhen_8 : decode cX11_isWhen 8 = .ok (.invokestatic 220, 3) := by decide +kernel
theorem dX11_isWhen_11 : decode cX11_isWhen 11 = .ok (.ifCond .eq 7, 3) := by decide +kernel
theorem dX11_isWhen_14 : decode cX11_isWhen 14 = .ok (.iconst 1, 1) := by decide +kernel
theorem dX11_isWhen_15 : decode cX11_isWhen 15 = .ok (.goto 4, 3) := by decide +kernel
theorem dX11_isWhen_18 : decode cX11_isWhen 18 = .ok (.iconst 0, 1) := by decide +kernel
theorem dX11_isWhen_19 : decode cX11_isWhen 19 = .ok (.ireturn, 1) := by decide +kernel
theorem dX11_isPlace_0 : decode cX11_isPlace 0 = .ok (.iload_n 0, 1) := by decide +kernel
theorem dX11_isPlace_1 : decode cX11_isPlace 1 = .ok (.ifCond .lt 28, 3) := by decide +kernel
theorem dX11_isPlace_4 : decode cX11_isPlace 4 = .ok (.iload_n 0, 1) := by decide +kernel
theorem dX11_isPlace_5 : decode cX11_isPlace 5 = .ok (.bipush 100, 2) := by decide +kernel
theorem dX11_isPlace_7 : decode cX11_isPlace 7 = .ok (.idiv, 1) := by decide +kernel
theorem dX11_isPlace_8 : decode cX11_isPlace 8 = .ok (.invokestatic 164, 3) := by decide +kernel
theorem dX11_isPlace_11 : decode cX11_isPlace 11 = .ok (.ifCond .eq 18, 3) := by decide +kernel
theorem dX11_isPlace_14 : decode cX11_isPlace 14 = .ok (.iload_n 0, 1) := by decide +kernel
theorem dX11_isPlace_15 : decode cX11_isPlace 15 = .ok (.bipush 10, 2) := by decide +kernel
theorem dX11_isPlace_17 : decode cX11_isPlace 17 = .ok (.idiv, 1) := by decide +kernel
theorem dX11_isPlace_18 : decode cX11_isPlace 18 = .ok (.bipush 10, 2) := by decide +kernel
theorem dX11_isPlace_20 : decode cX11_isPlace 20 = .ok (.irem, 1) := by decide +kernel
theorem dX11_isPlace_21 : decode cX11_isPlace 21 = .ok (.iconst 4, 1) := by decide +kernel
theorem dX11_isPlace_22 : decode cX11_isPlace 22 = .ok (.if_icmp .ge 7, 3) := by decide +kernel
theorem dX11_isPlace_25 : decode cX11_isPlace 25 = .ok (.iconst 1, 1) := by decide +kernel
theorem dX11_isPlace_26 : decode cX11_isPlace 26 = .ok (.goto 4, 3) := by decide +kernel
theorem dX11_isPlace_29 : decode cX11_isPlace 29 = .ok (.iconst 0, 1) := by decide +kernel
theorem dX11_isPlace_30 : decode cX11_isPlace 30 = .ok (.ireturn, 1) := by decide +kernel
theorem dX11_isPrice_0 : decode cX11_isPrice 0 = .ok (.iload_n 0, 1) := by decide +kernel
theorem dX11_isPrice_1 : decode cX11_isPrice 1 = .ok (.ifCond .lt 13, 3) := by decide +kernel
theorem dX11_isPrice_4 : decode cX11_isPrice 4 = .ok (.iload_n 0, 1) := by decide +kernel
theorem dX11_isPrice_5 : decode cX11_isPrice 5 = .ok (.bipush 99, 2) := by decide +kernel
theorem dX11_isPrice_7 : decode cX11_isPrice 7 = .ok (.if_icmp .gt 7, 3) := by decide +kernel
theorem dX11_isPrice_10 : decode cX11_isPrice 10 = .ok (.iconst 1, 1) := by decide +kernel
theorem dX11_isPrice_11 : decode cX11_isPrice 11 = .ok (.goto 4, 3) := by decide +kernel
theorem dX11_isPrice_14 : decode cX11_isPrice 14 = .ok (.iconst 0, 1) := by decide +kernel
theorem dX11_isPrice_15 : decode cX11_isPrice 15 = .ok (.ireturn, 1) := by decide +kernel
theorem dX12_init_0 : decode cX12_init 0 = .ok (.aload_n 0, 1) := by decide +kernel
theorem dX12_init_1 : decode cX12_init 1 = .ok (.invokespecial 1, 3) := by decide +kernel
theorem dX12_init_4 : decode cX12_init 4 = .ok (.aload_n 0, 1) := by decide +kernel
theorem dX12_init_5 : decode cX12_init 5 = .ok (.sipush 1620, 3) := by decide +kernel
theorem dX12_init_8 : decode cX12_init 8 = .ok (.newarray .byte, 2) := by decide +kernel
theorem dX12_init_10 : decode cX12_init 10 = .ok (.putfield 7, 3) := by decide +kernel
theorem dX12_init_13 : decode cX12_init 13 = .ok (.aload_n 0, 1) := by decide +kernel
theorem dX12_init_14 : decode cX12_init 14 = .ok (.sipush 1600, 3) := by decide +kernel
theorem dX12_init_17 : decode cX12_init 17 = .ok (.newarray .byte, 2) := by decide +kernel
theorem dX12_init_19 : decode cX12_init 19 = .ok (.putfield 13, 3) := by decide +kernel
theorem dX12_init_22 : decode cX12_init 22 = .ok (.aload_n 0, 1) := by decide +kernel
theorem dX12_init_23 : decode cX12_init 23 = .ok (.iconst (-1), 1) := by decide +kernel
theorem dX12_init_24 : decode cX12_init 24 = .ok (.putfield 16, 3) := by decide +kernel
