theorem dX0_init_0 : decode cX0_init 0 = .ok (.aload_n 0, 1) := by decide +kernel
theorem dX0_init_1 : decode cX0_init 1 = .ok (.invokespecial 3, 3) := by decide +kernel
theorem dX0_init_4 : decode cX0_init 4 = .ok (.aload_n 0, 1) := by decide +kernel
theorem dX0_init_5 : decode cX0_init 5 = .ok (.iconst 4, 1) := by decide +kernel
theorem dX0_init_6 : decode cX0_init 6 = .ok (.putfield 9, 3) := by decide +kernel
theorem dX0_init_9 : decode cX0_init 9 = .ok (.aload_n 0, 1) := by decide +kernel
theorem dX0_init_10 : decode cX0_init 10 = .ok (.bipush 12, 2) := by decide +kernel
theorem dX0_init_12 : decode cX0_init 12 = .ok (.newarray .int, 2) := by decide +kernel
theorem dX0_init_14 : decode cX0_init 14 = .ok (.putfield 15, 3) := by decide +kernel
theorem dX0_init_17 : decode cX0_init 17 = .ok (.aload_n 0, 1) := by decide +kernel
theorem dX0_init_18 : decode cX0_init 18 = .ok (.bipush 12, 2) := by decide +kernel
theorem dX0_init_20 : decode cX0_init 20 = .ok (.newarray .int, 2) := by decide +kernel
theorem dX0_init_22 : decode cX0_init 22 = .ok (.putfield 19, 3) := by decide +kernel
theorem dX0_init_25 : decode cX0_init 25 = .ok (.aload_n 0, 1) := by decide +kernel
theorem dX0_init_26 : decode cX0_init 26 = .ok (.bipush 12, 2) := by decide +kernel
theorem dX0_init_28 : decode cX0_init 28 = .ok (.newarray .int, 2) := by decide +kernel
theorem dX0_init_30 : decode cX0_init 30 = .ok (.putfield 22, 3) := by decide +kernel
theorem dX0_init_33 : decode cX0_init 33 = .ok (.aload_n 0, 1) := by decide +kernel
theorem dX0_init_34 : decode cX0_init 34 = .ok (.bipush 12, 2) := by decide +kernel
theorem dX0_init_36 : decode cX0_init 36 = .ok (.newarray .int, 2) := by decide +kernel
theorem dX0_init_38 : decode cX0_init 38 = .ok (.putfield 25, 3) := by decide +kernel
theorem dX0_init_41 : decode cX0_init 41 = .ok (.aload_n 0, 1) := by decide +kernel
theorem dX0_init_42 : decode cX0_init 42 = .ok (.bipush 24, 2) := by decide +kernel
theorem dX0_init_44 : decode cX0_init 44 = .ok (.newarray .int, 2) := by decide +kernel
theorem dX0_init_46 : decode cX0_init 46 = .ok (.putfield 28, 3) := by decide +kernel
theorem dX0_init_49 : decode cX0_init 49 = .ok (.iconst 0, 1) := by decide +kernel
theorem dX0_init_50 : decode cX0_init 50 = .ok (.istore_n 1, 1) := by decide +kernel
theorem dX0_init_51 : decode cX0_init 51 = .ok (.iload_n 1, 1) := by decide +kernel
theorem dX0_init_52 : decode cX0_init 52 = .ok (.bipush 24, 2) := by decide +kernel
theorem dX0_init_54 : decode cX0_init 54 = .ok (.if_icmp .ge 16, 3) := by decide +kernel
theorem dX0_init_57 : decode cX0_init 57 = .ok (.aload_n 0, 1) := by decide +kernel
theorem dX0_init_58 : decode cX0_init 58 = .ok (.getfield 28, 3) := by decide +kernel
theorem dX0_init_61 : decode cX0_init 61 = .ok (.iload_n 1, 1) := by decide +kernel
theorem dX0_init_62 : decode cX0_init 62 = .ok (.iconst (-1), 1) := by decide +kernel
theorem dX0_init_63 : decode cX0_init 63 = .ok (.iastore, 1) := by decide +kernel
theorem dX0_init_64 : decode cX0_init 64 = .ok (.iinc 1 1, 3) := by decide +kernel
theorem dX0_init_67 : decode cX0_init 67 = .ok (.goto (-16), 3) := by decide +kernel
theorem dX0_init_70 : decode cX0_init 70 = .ok (.iconst 0, 1) := by decide +kernel
theorem dX0_init_71 : decode cX0_init 71 = .ok (.istore_n 1, 1) := by decide +kernel
theorem dX0_init_72 : decode cX0_init 72 = .ok (.iload_n 1, 1) := by decide +kernel
theorem dX0_init_73 : decode cX0_init 73 = .ok (.bipush 12, 2) := by decide +kernel
theorem dX0_init_75 : decode cX0_init 75 = .ok (.if_icmp .ge 16, 3) := by decide +kernel
theorem dX0_init_78 : decode cX0_init 78 = .ok (.aload_n 0, 1) := by decide +kernel
theorem dX0_init_79 : decode cX0_init 79 = .ok (.getfield 19, 3) := by decide +kernel
theorem dX0_init_82 : decode cX0_init 82 = .ok (.iload_n 1, 1) := by decide +kernel
theorem dX0_init_83 : decode cX0_init 83 = .ok (.iconst (-1), 1) := by decide +kernel
theorem dX0_init_84 : decode cX0_init 84 = .ok (.iastore, 1) := by decide +kernel
theorem dX0_init_85 : decode cX0_init 85 = .ok (.iinc 1 1, 3) := by decide +kernel
theorem dX0_init_88 : decode cX0_init 88 = .ok (.goto (-16), 3) := by decide +kernel
theorem dX0_init_91 : decode cX0_init 91 = .ok (.return_, 1) := by decide +kernel
theorem dX0_become_0 : decode cX0_become 0 = .ok (.aload_n 0, 1) := by decide +kernel
theorem dX0_become_1 : decode cX0_become 1 = .ok (.aload_n 1, 1) := by decide +kernel
theorem dX0_become_2 : decode cX0_become 2 = .ok (.getfield 31, 3) := by decide +kernel
theorem dX0_become_5 : decode cX0_become 5 = .ok (.putfield 31, 3) := by decide +kernel
theorem dX0_become_8 : decode cX0_become 8 = .ok (.aload_n 0, 1) := by decide +kernel
theorem dX0_become_9 : decode cX0_become 9 = .ok (.aload_n 1, 1) := by decide +kernel
theorem dX0_become_10 : decode cX0_become 10 = .ok (.getfield 34, 3) := by decide +kernel
theorem dX0_become_13 : decode cX0_become 13 = .ok (.putfield 34, 3) := by decide +kernel
theorem dX0_become_16 : decode cX0_become 16 = .ok (.aload_n 0, 1) := by decide +kernel
theorem dX0_become_17 : decode cX0_become 17 = .ok (.aload_n 1, 1) := by decide +kernel
theorem dX0_become_18 : decode cX0_become 18 = .ok (.getfield 9, 3) := by decide +kernel
theorem dX0_become_21 : decode cX0_become 21 = .ok (.putfield 9, 3) := by decide +kernel
theorem dX0_become_24 : decode cX0_become 24 = .ok (.aload_n 0, 1) := by decide +kernel
theorem dX0_become_25 : decode cX0_become 25 = .ok (.aload_n 1, 1) := by decide +kernel
theorem dX0_become_26 : decode cX0_become 26 = .ok (.getfield 37, 3) := by decide +kernel
theorem dX0_become_29 : decode cX0_become 29 = .ok (.putfield 37, 3) := by decide +kernel
theorem dX0_become_32 : decode cX0_become 32 = .ok (.aload_n 1, 1) := by decide +kernel
theorem dX0_become_33 : decode cX0_become 33 = .ok (.getfield 15, 3) := by decide +kernel
theorem dX0_become_36 : decode cX0_become 36 = .ok (.iconst 0, 1) := by decide +kernel
theorem dX0_become_37 : decode cX0_become 37 = .ok (.aload_n 0, 1) := by decide +kernel
theorem dX0_become_38 : decode cX0_become 38 = .ok (.getfield 15, 3) := by decide +kernel
theorem dX0_become_41 : decode cX0_become 41 = .ok (.iconst 0, 1) := by decide +kernel
theorem dX0_become_42 : decode cX0_become 42 = .ok (.bipush 12, 2) := by decide +kernel
theorem dX0_become_44 : decode cX0_become 44 = .ok (.invokestatic 40, 3) := by decide +kernel
theorem dX0_become_47 : decode cX0_become 47 = .ok (.aload_n 1, 1) := by decide +kernel
theorem dX0_become_48 : decode cX0_become 48 = .ok (.getfield 19, 3) := by decide +kernel
theorem dX0_become_51 : decode cX0_become 51 = .ok (.iconst 0, 1) := by decide +kernel
theorem dX0_become_52 : decode cX0_become 52 = .ok (.aload_n 0, 1) := by decide +kernel
theorem dX0_become_53 : decode cX0_become 53 = .ok (.getfield 19, 3) := by decide +kernel
theorem dX0_become_56 : decode cX0_become 56 = .ok (.iconst 0, 1) := by decide +kernel
theorem dX0_become_57 : decode cX0_become 57 = .ok (.bipush 12, 2) := by decide +kernel
theorem dX0_become_59 : decode cX0_become 59 = .ok (.invokestatic 40, 3) := by decide +kernel
theorem dX0_become_62 : decode cX0_become 62 = .ok (.aload_n 1, 1) := by decide +kernel
theorem dX0_become_63 : decode cX0_become 63 = .ok (.getfield 22, 3) := by decide +kernel
theorem dX0_become_66 : decode cX0_become 66 = .ok (.iconst 0, 1) := by decide +kernel
theorem dX0_become_67 : decode cX0_become 67 = .ok (.aload_n 0, 1) := by decide +kernel
theorem dX0_become_68 : decode cX0_become 68 = .ok (.getfield 22, 3) := by decide +kernel
theorem dX0_become_71 : decode cX0_become 71 = .ok (.iconst 0, 1) := by decide +kernel
theorem dX0_become_72 : decode cX0_become 72 = .ok (.bipush 12, 2) := by decide +kernel
theorem dX0_become_74 : decode cX0_become 74 = .ok (.invokestatic 40, 3) := by decide +kernel
theorem dX0_become_77 : decode cX0_become 77 = .ok (.aload_n 1, 1) := by decide +kernel
theorem dX0_become_78 : decode cX0_become 78 = .ok (.getfield 25, 3) := by decide +kernel
theorem dX0_become_81 : decode cX0_become 81 = .ok (.iconst 0, 1) := by decide +kernel
theorem dX0_become_82 : decode cX0_become 82 = .ok (.aload_n 0, 1) := by decide +kernel
theorem dX0_become_83 : decode cX0_become 83 = .ok (.getfield 25, 3) := by decide +kernel
theorem dX0_become_86 : decode cX0_become 86 = .ok (.iconst 0, 1) := by decide +kernel
theorem dX0_become_87 : decode cX0_become 87 = .ok (.bipush 12, 2) := by decide +kernel
theorem dX0_become_89 : decode cX0_become 89 = .ok (.invokestatic 40, 3) := by decide +kernel
theorem dX0_become_92 : decode cX0_become 92 = .ok (.aload_n 1, 1) := by decide +kernel
theorem dX0_become_93 : decode cX0_become 93 = .ok (.getfield 28, 3) := by decide +kernel
theorem dX0_become_96 : decode cX0_become 96 = .ok (.iconst 0, 1) := by decide +kernel
theorem dX0_become_97 : decode cX0_become 97 = .ok (.aload_n 0, 1) := by decide +kernel
theorem dX0_become_98 : decode cX0_become 98 = .ok (.getfield 28, 3) := by decide +kernel
theorem dX0_become_101 : decode cX0_become 101 = .ok (.iconst 0, 1) := by decide +kernel
theorem dX0_become_102 : decode cX0_become 102 = .ok (.bipush 24, 2) := by decide +kernel
theorem dX0_become_104 : decode cX0_become 104 = .ok (.invokestatic 40, 3) := by decide +kernel
theorem dX0_become_107 : decode cX0_become 107 = .ok (.return_, 1) := by decide +kernel
theorem dX0_has_0 : decode cX0_has 0 = .ok (.iload_n 1, 1) := by decide +kernel
theorem dX0_has_1 : decode cX0_has 1 = .ok (.ifCond .lt 15, 3) := by decide +kernel
theorem dX0_has_4 : decode cX0_has 4 = .ok (.iload_n 1, 1) := by decide +kernel
theorem dX0_has_5 : decode cX0_has 5 = .ok (.aload_n 0, 1) := by decide +kernel
theorem dX0_has_6 : decode cX0_has 6 = .ok (.getfield 31, 3) := by decide +kernel
theorem dX0_has_9 : decode cX0_has 9 = .ok (.if_icmp .ge 7, 3) := by decide +kernel
theorem dX0_has_12 : decode cX0_has 12 = .ok (.iconst 1, 1) := by decide +kernel
theorem dX0_has_13 : decode cX0_has 13 = .ok (.goto 4, 3) := by decide +kernel
theorem dX0_has_16 : decode cX0_has 16 = .ok (.iconst 0, 1) := by decide +kernel
theorem dX0_has_17 : decode cX0_has 17 = .ok (.ireturn, 1) := by decide +kernel
theorem dX0_isUp_0 : decode cX0_isUp 0 = .ok (.aload_n 0, 1) := by decide +kernel
theorem dX0_isUp_1 : decode cX0_isUp 1 = .ok (.getfield 19, 3) := by decide +kernel
theorem dX0_isUp_4 : decode cX0_isUp 4 = .ok (.iload_n 1, 1) := by decide +kernel
theorem dX0_isUp_5 : decode cX0_isUp 5 = .ok (.iaload, 1) := by decide +kernel
theorem dX0_isUp_6 : decode cX0_isUp 6 = .ok (.iconst (-1), 1) := by decide +kernel
theorem dX0_isUp_7 : decode cX0_isUp 7 = .ok (.if_icmp .eq 7, 3) := by decide +kernel
theorem dX0_isUp_10 : decode cX0_isUp 10 = .ok (.iconst 1, 1) := by decide +kernel
theorem dX0_isUp_11 : decode cX0_isUp 11 = .ok (.goto 4, 3) := by decide +kernel
theorem dX0_isUp_14 : decode cX0_isUp 14 = .ok (.iconst 0, 1) := by decide +kernel
theorem dX0_isUp_15 : decode cX0_isUp 15 = .ok (.ireturn, 1) := by decide +kernel
theorem dX0_isFree_0 : decode cX0_isFree 0 = .ok (.aload_n 0, 1) := by decide +kernel
theorem dX0_isFree_1 : decode cX0_isFree 1 = .ok (.getfield 28, 3) := by decide +kernel
theorem dX0_isFree_4 : decode cX0_isFree 4 = .ok (.iload_n 1, 1) := by decide +kernel
theorem dX0_isFree_5 : decode cX0_isFree 5 = .ok (.iaload, 1) := by decide +kernel
theorem dX0_isFree_6 : decode cX0_isFree 6 = .ok (.iconst (-1), 1) := by decide +kernel
theorem dX0_isFree_7 : decode cX0_isFree 7 = .ok (.if_icmp .ne 7, 3) := by decide +kernel
theorem dX0_isFree_10 : decode cX0_isFree 10 = .ok (.iconst 1, 1) := by decide +kernel
theorem dX0_isFree_11 : decode cX0_isFree 11 = .ok (.goto 4, 3) := by decide +kernel
theorem dX0_isFree_14 : decode cX0_isFree 14 = .ok (.iconst 0, 1) := by decide +kernel
theorem dX0_isFree_15 : decode cX0_isFree 15 = .ok (.ireturn, 1) := by decide +kernel
theorem dX0_facingOf_0 : decode cX0_facingOf 0 = .ok (.aload_n 0, 1) := by decide +kernel
theorem dX0_facingOf_1 : decode cX0_facingOf 1 = .ok (.getfield 37, 3) := by decide +kernel
theorem dX0_facingOf_4 : decode cX0_facingOf 4 = .ok (.iload_n 1, 1) := by decide +kernel
theorem dX0_facingOf_5 : decode cX0_facingOf 5 = .ok (.ishr, 1) := by decide +kernel
theorem dX0_facingOf_6 : decode cX0_facingOf 6 = .ok (.iconst 1, 1) := by decide +kernel
theorem dX0_facingOf_7 : decode cX0_facingOf 7 = .ok (.iand, 1) := by decide +kernel
theorem dX0_facingOf_8 : decode cX0_facingOf 8 = .ok (.ireturn, 1) := by decide +kernel
theorem dX0_addHanger_0 : decode cX0_addHanger 0 = .ok (.aload_n 0, 1) := by decide +kernel
theorem dX0_addHanger_1 : decode cX0_addHanger 1 = .ok (.getfield 31, 3) := by decide +kernel
theorem dX0_addHanger_4 : decode cX0_addHanger 4 = .ok (.istore_n 2, 1) := by decide +kernel
theorem dX0_addHanger_5 : decode cX0_addHanger 5 = .ok (.aload_n 0, 1) := by decide +kernel
theorem dX0_addHanger_6 : decode cX0_addHanger 6 = .ok (.getfield 15, 3) := by decide +kernel
theorem dX0_addHanger_9 : decode cX0_addHanger 9 = .ok (.iload_n 2, 1) := by decide +kernel
theorem dX0_addHanger_10 : decode cX0_addHanger 10 = .ok (.iload_n 1, 1) := by decide +kernel
theorem dX0_addHanger_11 : decode cX0_addHanger 11 = .ok (.iastore, 1) := by decide +kernel
theorem dX0_addHanger_12 : decode cX0_addHanger 12 = .ok (.aload_n 0, 1) := by decide +kernel
theorem dX0_addHanger_13 : decode cX0_addHanger 13 = .ok (.dup, 1) := by decide +kernel
theorem dX0_addHanger_14 : decode cX0_addHanger 14 = .ok (.getfield 31, 3) := by decide +kernel
theorem dX0_addHanger_17 : decode cX0_addHanger 17 = .ok (.iconst 1, 1) := by decide +kernel
theorem dX0_addHanger_18 : decode cX0_addHanger 18 = .ok (.iadd, 1) := by decide +kernel
theorem dX0_addHanger_19 : decode cX0_addHanger 19 = .ok (.putfield 31, 3) := by decide +kernel
theorem dX0_addHanger_22 : decode cX0_addHanger 22 = .ok (.iload_n 2, 1) := by decide +kernel
theorem dX0_addHanger_23 : decode cX0_addHanger 23 = .ok (.ireturn, 1) := by decide +kernel
theorem dX0_put_0 : decode cX0_put 0 = .ok (.aload_n 0, 1) := by decide +kernel
theorem dX0_put_1 : decode cX0_put 1 = .ok (.getfield 19, 3) := by decide +kernel
theorem dX0_put_4 : decode cX0_put 4 = .ok (.iload_n 1, 1) := by decide +kernel
theorem dX0_put_5 : decode cX0_put 5 = .ok (.iload_n 2, 1) := by decide +kernel
theorem dX0_put_6 : decode cX0_put 6 = .ok (.iastore, 1) := by decide +kernel
theorem dX0_put_7 : decode cX0_put 7 = .ok (.aload_n 0, 1) := by decide +kernel
theorem dX0_put_8 : decode cX0_put 8 = .ok (.getfield 28, 3) := by decide +kernel
theorem dX0_put_11 : decode cX0_put 11 = .ok (.iload_n 2, 1) := by decide +kernel
theorem dX0_put_12 : decode cX0_put 12 = .ok (.iload_n 1, 1) := by decide +kernel
theorem dX0_put_13 : decode cX0_put 13 = .ok (.iastore, 1) := by decide +kernel
theorem dX0_put_14 : decode cX0_put 14 = .ok (.return_, 1) := by decide +kernel
theorem dX0_putOut_0 : decode cX0_putOut 0 = .ok (.aload_n 0, 1) := by decide +kernel
theorem dX0_putOut_1 : decode cX0_putOut 1 = .ok (.getfield 19, 3) := by decide +kernel
theorem dX0_putOut_4 : decode cX0_putOut 4 = .ok (.iload_n 1, 1) := by decide +kernel
theorem dX0_putOut_5 : decode cX0_putOut 5 = .ok (.iaload, 1) := by decide +kernel
theorem dX0_putOut_6 : decode cX0_putOut 6 = .ok (.istore_n 2, 1) := by decide +kernel
theorem dX0_putOut_7 : decode cX0_putOut 7 = .ok (.iload_n 2, 1) := by decide +kernel
theorem dX0_putOut_8 : decode cX0_putOut 8 = .ok (.invokestatic 46, 3) := by decide +kernel
theorem dX0_putOut_11 : decode cX0_putOut 11 = .ok (.ifCond .eq 10, 3) := by decide +kernel
theorem dX0_putOut_14 : decode cX0_putOut 14 = .ok (.aload_n 0, 1) := by decide +kernel
theorem dX0_putOut_15 : decode cX0_putOut 15 = .ok (.getfield 28, 3) := by decide +kernel
theorem dX0_putOut_18 : decode cX0_putOut 18 = .ok (.iload_n 2, 1) := by decide +kernel
theorem dX0_putOut_19 : decode cX0_putOut 19 = .ok (.iconst (-1), 1) := by decide +kernel
theorem dX0_putOut_20 : decode cX0_putOut 20 = .ok (.iastore, 1) := by decide +kernel
theorem dX0_putOut_21 : decode cX0_putOut 21 = .ok (.aload_n 0, 1) := by decide +kernel
theorem dX0_putOut_22 : decode cX0_putOut 22 = .ok (.getfield 19, 3) := by decide +kernel
theorem dX0_putOut_25 : decode cX0_putOut 25 = .ok (.iload_n 1, 1) := by decide +kernel
theorem dX0_putOut_26 : decode cX0_putOut 26 = .ok (.iconst (-1), 1) := by decide +kernel
theorem dX0_putOut_27 : decode cX0_putOut 27 = .ok (.iastore, 1) := by decide +kernel
theorem dX0_putOut_28 : decode cX0_putOut 28 = .ok (.return_, 1) := by decide +kernel
theorem dX0_addMove_0 : decode cX0_addMove 0 = .ok (.aload_n 0, 1) := by decide +kernel
theorem dX0_addMove_1 : decode cX0_addMove 1 = .ok (.aload_n 0, 1) := by decide +kernel
theorem dX0_addMove_2 : decode cX0_addMove 2 = .ok (.getfield 34, 3) := by decide +kernel
theorem dX0_addMove_5 : decode cX0_addMove 5 = .ok (.iconst 1, 1) := by decide +kernel
theorem dX0_addMove_6 : decode cX0_addMove 6 = .ok (.iadd, 1) := by decide +kernel
theorem dX0_addMove_7 : decode cX0_addMove 7 = .ok (.sipush 9999, 3) := by decide +kernel
theorem dX0_addMove_10 : decode cX0_addMove 10 = .ok (.invokestatic 50, 3) := by decide +kernel
theorem dX0_addMove_13 : decode cX0_addMove 13 = .ok (.putfield 34, 3) := by decide +kernel
theorem dX0_addMove_16 : decode cX0_addMove 16 = .ok (.return_, 1) := by decide +kernel
theorem dX0_up_0 : decode cX0_up 0 = .ok (.iconst 0, 1) := by decide +kernel
theorem dX0_up_1 : decode cX0_up 1 = .ok (.istore_n 1, 1) := by decide +kernel
theorem dX0_up_2 : decode cX0_up 2 = .ok (.iconst 0, 1) := by decide +kernel
theorem dX0_up_3 : decode cX0_up 3 = .ok (.istore_n 2, 1) := by decide +kernel
theorem dX0_up_4 : decode cX0_up 4 = .ok (.iload_n 2, 1) := by decide +kernel
theorem dX0_up_5 : decode cX0_up 5 = .ok (.aload_n 0, 1) := by decide +kernel
theorem dX0_up_6 : decode cX0_up 6 = .ok (.getfield 31, 3) := by decide +kernel
theorem dX0_up_9 : decode cX0_up 9 = .ok (.if_icmp .ge 23, 3) := by decide +kernel
theorem dX0_up_12 : decode cX0_up 12 = .ok (.aload_n 0, 1) := by decide +kernel
theorem dX0_up_13 : decode cX0_up 13 = .ok (.iload_n 2, 1) := by decide +kernel
theorem dX0_up_14 : decode cX0_up 14 = .ok (.invokevirtual 56, 3) := by decide +kernel
theorem dX0_up_17 : decode cX0_up 17 = .ok (.ifCond .eq 9, 3) := by decide +kernel
theorem dX0_up_20 : decode cX0_up 20 = .ok (.iload_n 1, 1) := by decide +kernel
theorem dX0_up_21 : decode cX0_up 21 = .ok (.iconst 1, 1) := by decide +kernel
theorem dX0_up_22 : decode cX0_up 22 = .ok (.iload_n 2, 1) := by decide +kernel
theorem dX0_up_23 : decode cX0_up 23 = .ok (.ishl, 1) := by decide +kernel
theorem dX0_up_24 : decode cX0_up 24 = .ok (.ior, 1) := by decide +kernel
theorem dX0_up_25 : decode cX0_up 25 = .ok (.istore_n 1, 1) := by decide +kernel
theorem dX0_up_26 : decode cX0_up 26 = .ok (.iinc 2 1, 3) := by decide +kernel
theorem dX0_up_29 : decode cX0_up 29 = .ok (.goto (-25), 3) := by decide +kernel
theorem dX0_up_32 : decode cX0_up 32 = .ok (.iload_n 1, 1) := by decide +kernel
theorem dX0_up_33 : decode cX0_up 33 = .ok (.ireturn, 1) := by decide +kernel
theorem dX0_shirts_0 : decode cX0_shirts 0 = .ok (.iconst 0, 1) := by decide +kernel
theorem dX0_shirts_1 : decode cX0_shirts 1 = .ok (.istore_n 1, 1) := by decide +kernel
theorem dX0_shirts_2 : decode cX0_shirts 2 = .ok (.iconst 0, 1) := by decide +kernel
theorem dX0_shirts_3 : decode cX0_shirts 3 = .ok (.istore_n 2, 1) := by decide +kernel
theorem dX0_shirts_4 : decode cX0_shirts 4 = .ok (.iload_n 2, 1) := by decide +kernel
theorem dX0_shirts_5 : decode cX0_shirts 5 = .ok (.aload_n 0, 1) := by decide +kernel
theorem dX0_shirts_6 : decode cX0_shirts 6 = .ok (.getfield 31, 3) := by decide +kernel
theorem dX0_shirts_9 : decode cX0_shirts 9 = .ok (.if_icmp .ge 21, 3) := by decide +kernel
theorem dX0_shirts_12 : decode cX0_shirts 12 = .ok (.aload_n 0, 1) := by decide +kernel
theorem dX0_shirts_13 : decode cX0_shirts 13 = .ok (.getfield 22, 3) := by decide +kernel
theorem dX0_shirts_16 : decode cX0_shirts 16 = .ok (.iload_n 2, 1) := by decide +kernel
theorem dX0_shirts_17 : decode cX0_shirts 17 = .ok (.iaload, 1) := by decide +kernel
theorem dX0_shirts_18 : decode cX0_shirts 18 = .ok (.ifCond .le 6, 3) := by decide +kernel
theorem dX0_shirts_21 : decode cX0_shirts 21 = .ok (.iinc 1 1, 3) := by decide +kernel
theorem dX0_shirts_24 : decode cX0_shirts 24 = .ok (.iinc 2 1, 3) := by decide +kernel
theorem dX0_shirts_27 : decode cX0_shirts 27 = .ok (.goto (-23), 3) := by decide +kernel
theorem dX0_shirts_30 : decode cX0_shirts 30 = .ok (.iload_n 1, 1) := by decide +kernel
theorem dX0_shirts_31 : decode cX0_shirts 31 = .ok (.ireturn, 1) := by decide +kernel
theorem dX0_slips_0 : decode cX0_slips 0 = .ok (.iconst 0, 1) := by decide +kernel
theorem dX0_slips_1 : decode cX0_slips 1 = .ok (.istore_n 1, 1) := by decide +kernel
theorem dX0_slips_2 : decode cX0_slips 2 = .ok (.iconst 0, 1) := by decide +kernel
theorem dX0_slips_3 : decode cX0_slips 3 = .ok (.istore_n 2, 1) := by decide +kernel
theorem dX0_slips_4 : decode cX0_slips 4 = .ok (.iload_n 2, 1) := by decide +kernel
theorem dX0_slips_5 : decode cX0_slips 5 = .ok (.aload_n 0, 1) := by decide +kernel
theorem dX0_slips_6 : decode cX0_slips 6 = .ok (.getfield 31, 3) := by decide +kernel
theorem dX0_slips_9 : decode cX0_slips 9 = .ok (.if_icmp .ge 18, 3) := by decide +kernel
theorem dX0_slips_12 : decode cX0_slips 12 = .ok (.iload_n 1, 1) := by decide +kernel
theorem dX0_slips_13 : decode cX0_slips 13 = .ok (.aload_n 0, 1) := by decide +kernel
theorem dX0_slips_14 : decode cX0_slips 14 = .ok (.getfield 22, 3) := by decide +kernel
theorem dX0_slips_17 : decode cX0_slips 17 = .ok (.iload_n 2, 1) := by decide +kernel
theorem dX0_slips_18 : decode cX0_slips 18 = .ok (.iaload, 1) := by decide +kernel
theorem dX0_slips_19 : decode cX0_slips 19 = .ok (.iadd, 1) := by decide +kernel
theorem dX0_slips_20 : decode cX0_slips 20 = .ok (.istore_n 1, 1) := by decide +kernel
theorem dX0_slips_21 : decode cX0_slips 21 = .ok (.iinc 2 1, 3) := by decide +kernel
theorem dX0_slips_24 : decode cX0_slips 24 = .ok (.goto (-20), 3) := by decide +kernel
theorem dX0_slips_27 : decode cX0_slips 27 = .ok (.iload_n 1, 1) := by decide +kernel
theorem dX0_slips_28 : decode cX0_slips 28 = .ok (.ireturn, 1) := by decide +kernel
theorem dX0_hasRoom_0 : decode cX0_hasRoom 0 = .ok (.iconst 0, 1) := by decide +kernel
theorem dX0_hasRoom_1 : decode cX0_hasRoom 1 = .ok (.istore_n 2, 1) := by decide +kernel
theorem dX0_hasRoom_2 : decode cX0_hasRoom 2 = .ok (.aload_n 0, 1) := by decide +kernel
theorem dX0_hasRoom_3 : decode cX0_hasRoom 3 = .ok (.getfield 19, 3) := by decide +kernel
theorem dX0_hasRoom_6 : decode cX0_hasRoom 6 = .ok (.iload_n 1, 1) := by decide +kernel
theorem dX0_hasRoom_7 : decode cX0_hasRoom 7 = .ok (.iaload, 1) := by decide +kernel
theorem dX0_hasRoom_8 : decode cX0_hasRoom 8 = .ok (.iconst 1, 1) := by decide +kernel
theorem dX0_hasRoom_9 : decode cX0_hasRoom 9 = .ok (.isub, 1) := by decide +kernel
theorem dX0_hasRoom_10 : decode cX0_hasRoom 10 = .ok (.istore_n 3, 1) := by decide +kernel
theorem dX0_hasRoom_11 : decode cX0_hasRoom 11 = .ok (.aload_n 0, 1) := by decide +kernel
theorem dX0_hasRoom_12 : decode cX0_hasRoom 12 = .ok (.getfield 19, 3) := by decide +kernel
theorem dX0_hasRoom_15 : decode cX0_hasRoom 15 = .ok (.iload_n 1, 1) := by decide +kernel
theorem dX0_hasRoom_16 : decode cX0_hasRoom 16 = .ok (.iaload, 1) := by decide +kernel
theorem dX0_hasRoom_17 : decode cX0_hasRoom 17 = .ok (.iconst 1, 1) := by decide +kernel
theorem dX0_hasRoom_18 : decode cX0_hasRoom 18 = .ok (.iadd, 1) := by decide +kernel
theorem dX0_hasRoom_19 : decode cX0_hasRoom 19 = .ok (.istore 4, 2) := by decide +kernel
theorem dX0_hasRoom_21 : decode cX0_hasRoom 21 = .ok (.iload_n 3, 1) := by decide +kernel
theorem dX0_hasRoom_22 : decode cX0_hasRoom 22 = .ok (.invokestatic 46, 3) := by decide +kernel
theorem dX0_hasRoom_25 : decode cX0_hasRoom 25 = .ok (.ifCond .eq 14, 3) := by decide +kernel
theorem dX0_hasRoom_28 : decode cX0_hasRoom 28 = .ok (.aload_n 0, 1) := by decide +kernel
theorem dX0_hasRoom_29 : decode cX0_hasRoom 29 = .ok (.iload_n 3, 1) := by decide +kernel
theorem dX0_hasRoom_30 : decode cX0_hasRoom 30 = .ok (.invokevirtual 59, 3) := by decide +kernel
theorem dX0_hasRoom_33 : decode cX0_hasRoom 33 = .ok (.ifCond .eq 6, 3) := by decide +kernel
theorem dX0_hasRoom_36 : decode cX0_hasRoom 36 = .ok (.iinc 2 1, 3) := by decide +kernel
theorem dX0_hasRoom_39 : decode cX0_hasRoom 39 = .ok (.iload 4, 2) := by decide +kernel
theorem dX0_hasRoom_41 : decode cX0_hasRoom 41 = .ok (.invokestatic 46, 3) := by decide +kernel
theorem dX0_hasRoom_44 : decode cX0_hasRoom 44 = .ok (.ifCond .eq 15, 3) := by decide +kernel
theorem dX0_hasRoom_47 : decode cX0_hasRoom 47 = .ok (.aload_n 0, 1) := by decide +kernel
theorem dX0_hasRoom_48 : decode cX0_hasRoom 48 = .ok (.iload 4, 2) := by decide +kernel
theorem dX0_hasRoom_50 : decode cX0_hasRoom 50 = .ok (.invokevirtual 59, 3) := by decide +kernel
theorem dX0_hasRoom_53 : decode cX0_hasRoom 53 = .ok (.ifCond .eq 6, 3) := by decide +kernel
theorem dX0_hasRoom_56 : decode cX0_hasRoom 56 = .ok (.iinc 2 1, 3) := by decide +kernel
theorem dX0_hasRoom_59 : decode cX0_hasRoom 59 = .ok (.iload_n 2, 1) := by decide +kernel
theorem dX0_hasRoom_60 : decode cX0_hasRoom 60 = .ok (.aload_n 0, 1) := by decide +kernel
theorem dX0_hasRoom_61 : decode cX0_hasRoom 61 = .ok (.getfield 15, 3) := by decide +kernel
theorem dX0_hasRoom_64 : decode cX0_hasRoom 64 = .ok (.iload_n 1, 1) := by decide +kernel
theorem dX0_hasRoom_65 : decode cX0_hasRoom 65 = .ok (.iaload, 1) := by decide +kernel
theorem dX0_hasRoom_66 : decode cX0_hasRoom 66 = .ok (.invokestatic 62, 3) := by decide +kernel
theorem dX0_hasRoom_69 : decode cX0_hasRoom 69 = .ok (.if_icmp .lt 7, 3) := by decide +kernel
theorem dX0_hasRoom_72 : decode cX0_hasRoom 72 = .ok (.iconst 1, 1) := by decide +kernel
theorem dX0_hasRoom_73 : decode cX0_hasRoom 73 = .ok (.goto 4, 3) := by decide +kernel
theorem dX0_hasRoom_76 : decode cX0_hasRoom 76 = .ok (.iconst 0, 1) := by decide +kernel
theorem dX0_hasRoom_77 : decode cX0_hasRoom 77 = .ok (.ireturn, 1) := by decide +kernel
theorem dX0_falling_0 : decode cX0_falling 0 = .ok (.iconst 0, 1) := by decide +kernel
theorem dX0_falling_1 : decode cX0_falling 1 = .ok (.istore 4, 2) := by decide +kernel
theorem dX0_falling_3 : decode cX0_falling 3 = .ok (.iconst 0, 1) := by decide +kernel
theorem dX0_falling_4 : decode cX0_falling 4 = .ok (.istore 5, 2) := by decide +kernel
theorem dX0_falling_6 : decode cX0_falling 6 = .ok (.iload 5, 2) := by decide +kernel
theorem dX0_falling_8 : decode cX0_falling 8 = .ok (.aload_n 0, 1) := by decide +kernel
theorem dX0_falling_9 : decode cX0_falling 9 = .ok (.getfield 31, 3) := by decide +kernel
theorem dX0_falling_12 : decode cX0_falling 12 = .ok (.if_icmp .ge 70, 3) := by decide +kernel
theorem dX0_falling_15 : decode cX0_falling 15 = .ok (.iload_n 1, 1) := by decide +kernel
theorem dX0_falling_16 : decode cX0_falling 16 = .ok (.iload 5, 2) := by decide +kernel
theorem dX0_falling_18 : decode cX0_falling 18 = .ok (.invokestatic 66, 3) := by decide +kernel
theorem dX0_falling_21 : decode cX0_falling 21 = .ok (.ifCond .eq 18, 3) := by decide +kernel
theorem dX0_falling_24 : decode cX0_falling 24 = .ok (.iload 5, 2) := by decide +kernel
theorem dX0_falling_26 : decode cX0_falling 26 = .ok (.iload_n 2, 1) := by decide +kernel
theorem dX0_falling_27 : decode cX0_falling 27 = .ok (.if_icmp .ne 8, 3) := by decide +kernel
theorem dX0_falling_30 : decode cX0_falling 30 = .ok (.iload_n 3, 1) := by decide +kernel
theorem dX0_falling_31 : decode cX0_falling 31 = .ok (.iconst 1, 1) := by decide +kernel
theorem dX0_falling_32 : decode cX0_falling 32 = .ok (.if_icmp .ne 7, 3) := by decide +kernel
theorem dX0_falling_35 : decode cX0_falling 35 = .ok (.iconst 1, 1) := by decide +kernel
theorem dX0_falling_36 : decode cX0_falling 36 = .ok (.goto 4, 3) := by decide +kernel
theorem dX0_falling_39 : decode cX0_falling 39 = .ok (.iconst 0, 1) := by decide +kernel
theorem dX0_falling_40 : decode cX0_falling 40 = .ok (.istore 6, 2) := by decide +kernel
theorem dX0_falling_42 : decode cX0_falling 42 = .ok (.iload 6, 2) := by decide +kernel
theorem dX0_falling_44 : decode cX0_falling 44 = .ok (.ifCond .eq 32, 3) := by decide +kernel
theorem dX0_falling_47 : decode cX0_falling 47 = .ok (.aload_n 0, 1) := by decide +kernel
theorem dX0_falling_48 : decode cX0_falling 48 = .ok (.getfield 22, 3) := by decide +kernel
theorem dX0_falling_51 : decode cX0_falling 51 = .ok (.iload 5, 2) := by decide +kernel
theorem dX0_falling_53 : decode cX0_falling 53 = .ok (.iaload, 1) := by decide +kernel
theorem dX0_falling_54 : decode cX0_falling 54 = .ok (.aload_n 0, 1) := by decide +kernel
theorem dX0_falling_55 : decode cX0_falling 55 = .ok (.getfield 15, 3) := by decide +kernel
theorem dX0_falling_58 : decode cX0_falling 58 = .ok (.iload 5, 2) := by decide +kernel
theorem dX0_falling_60 : decode cX0_falling 60 = .ok (.iaload, 1) := by decide +kernel
theorem dX0_falling_61 : decode cX0_falling 61 = .ok (.invokestatic 70, 3) := by decide +kernel
theorem dX0_falling_64 : decode cX0_falling 64 = .ok (.if_icmp .le 12, 3) := by decide +kernel
theorem dX0_falling_67 : decode cX0_falling 67 = .ok (.iload 4, 2) := by decide +kernel
theorem dX0_falling_69 : decode cX0_falling 69 = .ok (.iconst 1, 1) := by decide +kernel
theorem dX0_falling_70 : decode cX0_falling 70 = .ok (.iload 5, 2) := by decide +kernel
theorem dX0_falling_72 : decode cX0_falling 72 = .ok (.ishl, 1) := by decide +kernel
theorem dX0_falling_73 : decode cX0_falling 73 = .ok (.ior, 1) := by decide +kernel
theorem dX0_falling_74 : decode cX0_falling 74 = .ok (.istore 4, 2) := by decide +kernel
theorem dX0_falling_76 : decode cX0_falling 76 = .ok (.iinc 5 1, 3) := by decide +kernel
theorem dX0_falling_79 : decode cX0_falling 79 = .ok (.goto (-73), 3) := by decide +kernel
theorem dX0_falling_82 : decode cX0_falling 82 = .ok (.iload 4, 2) := by decide +kernel
theorem dX0_falling_84 : decode cX0_falling 84 = .ok (.ireturn, 1) := by decide +kernel
theorem dX0_strip_0 : decode cX0_strip 0 = .ok (.iconst 0, 1) := by decide +kernel
theorem dX0_strip_1 : decode cX0_strip 1 = .ok (.istore_n 2, 1) := by decide +kernel
theorem dX0_strip_2 : decode cX0_strip 2 = .ok (.iload_n 2, 1) := by decide +kernel
theorem dX0_strip_3 : decode cX0_strip 3 = .ok (.aload_n 0, 1) := by decide +kernel
theorem dX0_strip_4 : decode cX0_strip 4 = .ok (.getfield 31, 3) := by decide +kernel
theorem dX0_strip_7 : decode cX0_strip 7 = .ok (.if_icmp .ge 24, 3) := by decide +kernel
theorem dX0_strip_10 : decode cX0_strip 10 = .ok (.iload_n 1, 1) := by decide +kernel
theorem dX0_strip_11 : decode cX0_strip 11 = .ok (.iload_n 2, 1) := by decide +kernel
theorem dX0_strip_12 : decode cX0_strip 12 = .ok (.invokestatic 66, 3) := by decide +kernel
theorem dX0_strip_15 : decode cX0_strip 15 = .ok (.ifCond .eq 10, 3) := by decide +kernel
theorem dX0_strip_18 : decode cX0_strip 18 = .ok (.aload_n 0, 1) := by decide +kernel
theorem dX0_strip_19 : decode cX0_strip 19 = .ok (.getfield 22, 3) := by decide +kernel
theorem dX0_strip_22 : decode cX0_strip 22 = .ok (.iload_n 2, 1) := by decide +kernel
theorem dX0_strip_23 : decode cX0_strip 23 = .ok (.iconst 0, 1) := by decide +kernel
theorem dX0_strip_24 : decode cX0_strip 24 = .ok (.iastore, 1) := by decide +kernel
theorem dX0_strip_25 : decode cX0_strip 25 = .ok (.iinc 2 1, 3) := by decide +kernel
theorem dX0_strip_28 : decode cX0_strip 28 = .ok (.goto (-26), 3) := by decide +kernel
theorem dX0_strip_31 : decode cX0_strip 31 = .ok (.return_, 1) := by decide +kernel
theorem dX0_tangledWith_0 : decode cX0_tangledWith 0 = .ok (.iload_n 1, 1) := by decide +kernel
theorem dX0_tangledWith_1 : decode cX0_tangledWith 1 = .ok (.aload_n 0, 1) := by decide +kernel
theorem dX0_tangledWith_2 : decode cX0_tangledWith 2 = .ok (.getfield 37, 3) := by decide +kernel
theorem dX0_tangledWith_5 : decode cX0_tangledWith 5 = .ok (.invokestatic 73, 3) := by decide +kernel
theorem dX0_tangledWith_8 : decode cX0_tangledWith 8 = .ok (.istore 4, 2) := by decide +kernel
theorem dX0_tangledWith_10 : decode cX0_tangledWith 10 = .ok (.aload_n 0, 1) := by decide +kernel
theorem dX0_tangledWith_11 : decode cX0_tangledWith 11 = .ok (.iload_n 1, 1) := by decide +kernel
theorem dX0_tangledWith_12 : decode cX0_tangledWith 12 = .ok (.iload_n 2, 1) := by decide +kernel
theorem dX0_tangledWith_13 : decode cX0_tangledWith 13 = .ok (.iload_n 3, 1) := by decide +kernel
theorem dX0_tangledWith_14 : decode cX0_tangledWith 14 = .ok (.iconst 1, 1) := by decide +kernel
theorem dX0_tangledWith_15 : decode cX0_tangledWith 15 = .ok (.invokevirtual 76, 3) := by decide +kernel
theorem dX0_tangledWith_18 : decode cX0_tangledWith 18 = .ok (.iload 4, 2) := by decide +kernel
theorem dX0_tangledWith_20 : decode cX0_tangledWith 20 = .ok (.iand, 1) := by decide +kernel
theorem dX0_tangledWith_21 : decode cX0_tangledWith 21 = .ok (.istore 5, 2) := by decide +kernel
theorem dX0_tangledWith_23 : decode cX0_tangledWith 23 = .ok (.aload_n 0, 1) := by decide +kernel
theorem dX0_tangledWith_24 : decode cX0_tangledWith 24 = .ok (.iload_n 1, 1) := by decide +kernel
theorem dX0_tangledWith_25 : decode cX0_tangledWith 25 = .ok (.iload_n 2, 1) := by decide +kernel
theorem dX0_tangledWith_26 : decode cX0_tangledWith 26 = .ok (.iload_n 3, 1) := by decide +kernel
theorem dX0_tangledWith_27 : decode cX0_tangledWith 27 = .ok (.iconst 0, 1) := by decide +kernel
theorem dX0_tangledWith_28 : decode cX0_tangledWith 28 = .ok (.invokevirtual 76, 3) := by decide +kernel
theorem dX0_tangledWith_31 : decode cX0_tangledWith 31 = .ok (.iload 4, 2) := by decide +kernel
theorem dX0_tangledWith_33 : decode cX0_tangledWith 33 = .ok (.iconst (-1), 1) := by decide +kernel
theorem dX0_tangledWith_34 : decode cX0_tangledWith 34 = .ok (.ixor, 1) := by decide +kernel
theorem dX0_tangledWith_35 : decode cX0_tangledWith 35 = .ok (.iand, 1) := by decide +kernel
theorem dX0_tangledWith_36 : decode cX0_tangledWith 36 = .ok (.istore 6, 2) := by decide +kernel
theorem dX0_tangledWith_38 : decode cX0_tangledWith 38 = .ok (.iload 5, 2) := by decide +kernel
theorem dX0_tangledWith_40 : decode cX0_tangledWith 40 = .ok (.iload 6, 2) := by decide +kernel
theorem dX0_tangledWith_42 : decode cX0_tangledWith 42 = .ok (.ior, 1) := by decide +kernel
theorem dX0_tangledWith_43 : decode cX0_tangledWith 43 = .ok (.ireturn, 1) := by decide +kernel
theorem dX0_tangledIf_0 : decode cX0_tangledIf 0 = .ok (.iconst 0, 1) := by decide +kernel
theorem dX0_tangledIf_1 : decode cX0_tangledIf 1 = .ok (.istore 5, 2) := by decide +kernel
theorem dX0_tangledIf_3 : decode cX0_tangledIf 3 = .ok (.bipush 23, 2) := by decide +kernel
theorem dX0_tangledIf_5 : decode cX0_tangledIf 5 = .ok (.iload_n 3, 1) := by decide +kernel
theorem dX0_tangledIf_6 : decode cX0_tangledIf 6 = .ok (.iconst 2, 1) := by decide +kernel
theorem dX0_tangledIf_7 : decode cX0_tangledIf 7 = .ok (.iadd, 1) := by decide +kernel
theorem dX0_tangledIf_8 : decode cX0_tangledIf 8 = .ok (.invokestatic 50, 3) := by decide +kernel
theorem dX0_tangledIf_11 : decode cX0_tangledIf 11 = .ok (.istore 6, 2) := by decide +kernel
theorem dX0_tangledIf_13 : decode cX0_tangledIf 13 = .ok (.iconst 0, 1) := by decide +kernel
theorem dX0_tangledIf_14 : decode cX0_tangledIf 14 = .ok (.iload_n 3, 1) := by decide +kernel
theorem dX0_tangledIf_15 : decode cX0_tangledIf 15 = .ok (.iconst 2, 1) := by decide +kernel
theorem dX0_tangledIf_16 : decode cX0_tangledIf 16 = .ok (.isub, 1) := by decide +kernel
theorem dX0_tangledIf_17 : decode cX0_tangledIf 17 = .ok (.invokestatic 80, 3) := by decide +kernel
theorem dX0_tangledIf_20 : decode cX0_tangledIf 20 = .ok (.istore 7, 2) := by decide +kernel
theorem dX0_tangledIf_22 : decode cX0_tangledIf 22 = .ok (.iload 7, 2) := by decide +kernel
theorem dX0_tangledIf_24 : decode cX0_tangledIf 24 = .ok (.iload 6, 2) := by decide +kernel
theorem dX0_tangledIf_26 : decode cX0_tangledIf 26 = .ok (.if_icmp .gt 121, 3) := by decide +kernel
theorem dX0_tangledIf_29 : decode cX0_tangledIf 29 = .ok (.aload_n 0, 1) := by decide +kernel
theorem dX0_tangledIf_30 : decode cX0_tangledIf 30 = .ok (.getfield 28, 3) := by decide +kernel
theorem dX0_tangledIf_33 : decode cX0_tangledIf 33 = .ok (.iload 7, 2) := by decide +kernel
theorem dX0_tangledIf_35 : decode cX0_tangledIf 35 = .ok (.iaload, 1) := by decide +kernel
theorem dX0_tangledIf_36 : decode cX0_tangledIf 36 = .ok (.istore 8, 2) := by decide +kernel
theorem dX0_tangledIf_38 : decode cX0_tangledIf 38 = .ok (.iload 8, 2) := by decide +kernel
theorem dX0_tangledIf_40 : decode cX0_tangledIf 40 = .ok (.iconst (-1), 1) := by decide +kernel
theorem dX0_tangledIf_41 : decode cX0_tangledIf 41 = .ok (.if_icmp .eq 100, 3) := by decide +kernel
theorem dX0_tangledIf_44 : decode cX0_tangledIf 44 = .ok (.iload 8, 2) := by decide +kernel
theorem dX0_tangledIf_46 : decode cX0_tangledIf 46 = .ok (.iload_n 1, 1) := by decide +kernel
theorem dX0_tangledIf_47 : decode cX0_tangledIf 47 = .ok (.if_icmp .eq 94, 3) := by decide +kernel
theorem dX0_tangledIf_50 : decode cX0_tangledIf 50 = .ok (.iload 7, 2) := by decide +kernel
theorem dX0_tangledIf_52 : decode cX0_tangledIf 52 = .ok (.iload_n 3, 1) := by decide +kernel
theorem dX0_tangledIf_53 : decode cX0_tangledIf 53 = .ok (.isub, 1) := by decide +kernel
theorem dX0_tangledIf_54 : decode cX0_tangledIf 54 = .ok (.invokestatic 83, 3) := by decide +kernel
theorem dX0_tangledIf_57 : decode cX0_tangledIf 57 = .ok (.istore 9, 2) := by decide +kernel
theorem dX0_tangledIf_59 : decode cX0_tangledIf 59 = .ok (.iload_n 2, 1) := by decide +kernel
theorem dX0_tangledIf_60 : decode cX0_tangledIf 60 = .ok (.iload 9, 2) := by decide +kernel
theorem dX0_tangledIf_62 : decode cX0_tangledIf 62 = .ok (.iload 4, 2) := by decide +kernel
theorem dX0_tangledIf_64 : decode cX0_tangledIf 64 = .ok (.aload_n 0, 1) := by decide +kernel
theorem dX0_tangledIf_65 : decode cX0_tangledIf 65 = .ok (.getfield 22, 3) := by decide +kernel
theorem dX0_tangledIf_68 : decode cX0_tangledIf 68 = .ok (.iload_n 1, 1) := by decide +kernel
theorem dX0_tangledIf_69 : decode cX0_tangledIf 69 = .ok (.iaload, 1) := by decide +kernel
theorem dX0_tangledIf_70 : decode cX0_tangledIf 70 = .ok (.ifCond .le 7, 3) := by decide +kernel
theorem dX0_tangledIf_73 : decode cX0_tangledIf 73 = .ok (.iconst 1, 1) := by decide +kernel
theorem dX0_tangledIf_74 : decode cX0_tangledIf 74 = .ok (.goto 4, 3) := by decide +kernel
theorem dX0_tangledIf_77 : decode cX0_tangledIf 77 = .ok (.iconst 0, 1) := by decide +kernel
theorem dX0_tangledIf_78 : decode cX0_tangledIf 78 = .ok (.invokestatic 86, 3) := by decide +kernel
theorem dX0_tangledIf_81 : decode cX0_tangledIf 81 = .ok (.ifCond .ne 35, 3) := by decide +kernel
theorem dX0_tangledIf_84 : decode cX0_tangledIf 84 = .ok (.aload_n 0, 1) := by decide +kernel
theorem dX0_tangledIf_85 : decode cX0_tangledIf 85 = .ok (.getfield 15, 3) := by decide +kernel
theorem dX0_tangledIf_88 : decode cX0_tangledIf 88 = .ok (.iload 8, 2) := by decide +kernel
theorem dX0_tangledIf_90 : decode cX0_tangledIf 90 = .ok (.iaload, 1) := by decide +kernel
theorem dX0_tangledIf_91 : decode cX0_tangledIf 91 = .ok (.iload 9, 2) := by decide +kernel
theorem dX0_tangledIf_93 : decode cX0_tangledIf 93 = .ok (.iload 4, 2) := by decide +kernel
theorem dX0_tangledIf_95 : decode cX0_tangledIf 95 = .ok (.aload_n 0, 1) := by decide +kernel
theorem dX0_tangledIf_96 : decode cX0_tangledIf 96 = .ok (.getfield 22, 3) := by decide +kernel
theorem dX0_tangledIf_99 : decode cX0_tangledIf 99 = .ok (.iload 8, 2) := by decide +kernel
theorem dX0_tangledIf_101 : decode cX0_tangledIf 101 = .ok (.iaload, 1) := by decide +kernel
theorem dX0_tangledIf_102 : decode cX0_tangledIf 102 = .ok (.ifCond .le 7, 3) := by decide +kernel
theorem dX0_tangledIf_105 : decode cX0_tangledIf 105 = .ok (.iconst 1, 1) := by decide +kernel
theorem dX0_tangledIf_106 : decode cX0_tangledIf 106 = .ok (.goto 4, 3) := by decide +kernel
theorem dX0_tangledIf_109 : decode cX0_tangledIf 109 = .ok (.iconst 0, 1) := by decide +kernel
theorem dX0_tangledIf_110 : decode cX0_tangledIf 110 = .ok (.invokestatic 86, 3) := by decide +kernel
theorem dX0_tangledIf_113 : decode cX0_tangledIf 113 = .ok (.ifCond .eq 7, 3) := by decide +kernel
theorem dX0_tangledIf_116 : decode cX0_tangledIf 116 = .ok (.iconst 1, 1) := by decide +kernel
theorem dX0_tangledIf_117 : decode cX0_tangledIf 117 = .ok (.goto 4, 3) := by decide +kernel
theorem dX0_tangledIf_120 : decode cX0_tangledIf 120 = .ok (.iconst 0, 1) := by decide +kernel
theorem dX0_tangledIf_121 : decode cX0_tangledIf 121 = .ok (.istore 10, 2) := by decide +kernel
theorem dX0_tangledIf_123 : decode cX0_tangledIf 123 = .ok (.iload 5, 2) := by decide +kernel
theorem dX0_tangledIf_125 : decode cX0_tangledIf 125 = .ok (.iload 10, 2) := by decide +kernel
theorem dX0_tangledIf_127 : decode cX0_tangledIf 127 = .ok (.ifCond .eq 10, 3) := by decide +kernel
theorem dX0_tangledIf_130 : decode cX0_tangledIf 130 = .ok (.iconst 1, 1) := by decide +kernel
theorem dX0_tangledIf_131 : decode cX0_tangledIf 131 = .ok (.iload 8, 2) := by decide +kernel
theorem dX0_tangledIf_133 : decode cX0_tangledIf 133 = .ok (.ishl, 1) := by decide +kernel
theorem dX0_tangledIf_134 : decode cX0_tangledIf 134 = .ok (.goto 4, 3) := by decide +kernel
theorem dX0_tangledIf_137 : decode cX0_tangledIf 137 = .ok (.iconst 0, 1) := by decide +kernel
theorem dX0_tangledIf_138 : decode cX0_tangledIf 138 = .ok (.ior, 1) := by decide +kernel
theorem dX0_tangledIf_139 : decode cX0_tangledIf 139 = .ok (.istore 5, 2) := by decide +kernel
theorem dX0_tangledIf_141 : decode cX0_tangledIf 141 = .ok (.iinc 7 1, 3) := by decide +kernel
theorem dX0_tangledIf_144 : decode cX0_tangledIf 144 = .ok (.goto (-122), 3) := by decide +kernel
theorem dX0_tangledIf_147 : decode cX0_tangledIf 147 = .ok (.iload 5, 2) := by decide +kernel
theorem dX0_tangledIf_149 : decode cX0_tangledIf 149 = .ok (.ireturn, 1) := by decide +kernel
theorem dX0_isAloneAt_0 : decode cX0_isAloneAt 0 = .ok (.iload_n 2, 1) := by decide +kernel
theorem dX0_isAloneAt_1 : decode cX0_isAloneAt 1 = .ok (.invokestatic 46, 3) := by decide +kernel
theorem dX0_isAloneAt_4 : decode cX0_isAloneAt 4 = .ok (.ifCond .eq 21, 3) := by decide +kernel
theorem dX0_isAloneAt_7 : decode cX0_isAloneAt 7 = .ok (.aload_n 0, 1) := by decide +kernel
theorem dX0_isAloneAt_8 : decode cX0_isAloneAt 8 = .ok (.iload_n 2, 1) := by decide +kernel
theorem dX0_isAloneAt_9 : decode cX0_isAloneAt 9 = .ok (.invokevirtual 59, 3) := by decide +kernel
theorem dX0_isAloneAt_12 : decode cX0_isAloneAt 12 = .ok (.ifCond .ne 15, 3) := by decide +kernel
theorem dX0_isAloneAt_15 : decode cX0_isAloneAt 15 = .ok (.aload_n 0, 1) := by decide +kernel
theorem dX0_isAloneAt_16 : decode cX0_isAloneAt 16 = .ok (.getfield 28, 3) := by decide +kernel
theorem dX0_isAloneAt_19 : decode cX0_isAloneAt 19 = .ok (.iload_n 2, 1) := by decide +kernel
theorem dX0_isAloneAt_20 : decode cX0_isAloneAt 20 = .ok (.iaload, 1) := by decide +kernel
theorem dX0_isAloneAt_21 : decode cX0_isAloneAt 21 = .ok (.iload_n 1, 1) := by decide +kernel
theorem dX0_isAloneAt_22 : decode cX0_isAloneAt 22 = .ok (.if_icmp .eq 5, 3) := by decide +kernel
theorem dX0_isAloneAt_25 : decode cX0_isAloneAt 25 = .ok (.iconst 0, 1) := by decide +kernel
theorem dX0_isAloneAt_26 : decode cX0_isAloneAt 26 = .ok (.ireturn, 1) := by decide +kernel
theorem dX0_isAloneAt_27 : decode cX0_isAloneAt 27 = .ok (.aload_n 0, 1) := by decide +kernel
theorem dX0_isAloneAt_28 : decode cX0_isAloneAt 28 = .ok (.iload_n 1, 1) := by decide +kernel
theorem dX0_isAloneAt_29 : decode cX0_isAloneAt 29 = .ok (.aload_n 0, 1) := by decide +kernel
theorem dX0_isAloneAt_30 : decode cX0_isAloneAt 30 = .ok (.getfield 15, 3) := by decide +kernel
theorem dX0_isAloneAt_33 : decode cX0_isAloneAt 33 = .ok (.iload_n 1, 1) := by decide +kernel
theorem dX0_isAloneAt_34 : decode cX0_isAloneAt 34 = .ok (.iaload, 1) := by decide +kernel
theorem dX0_isAloneAt_35 : decode cX0_isAloneAt 35 = .ok (.iload_n 2, 1) := by decide +kernel
theorem dX0_isAloneAt_36 : decode cX0_isAloneAt 36 = .ok (.invokevirtual 90, 3) := by decide +kernel
theorem dX0_isAloneAt_39 : decode cX0_isAloneAt 39 = .ok (.ifCond .ne 7, 3) := by decide +kernel
theorem dX0_isAloneAt_42 : decode cX0_isAloneAt 42 = .ok (.iconst 1, 1) := by decide +kernel
theorem dX0_isAloneAt_43 : decode cX0_isAloneAt 43 = .ok (.goto 4, 3) := by decide +kernel
theorem dX0_isAloneAt_46 : decode cX0_isAloneAt 46 = .ok (.iconst 0, 1) := by decide +kernel
theorem dX0_isAloneAt_47 : decode cX0_isAloneAt 47 = .ok (.ireturn, 1) := by decide +kernel
theorem dX0_alike_0 : decode cX0_alike 0 = .ok (.iload_n 1, 1) := by decide +kernel
theorem dX0_alike_1 : decode cX0_alike 1 = .ok (.iload_n 0, 1) := by decide +kernel
theorem dX0_alike_2 : decode cX0_alike 2 = .ok (.invokestatic 66, 3) := by decide +kernel
theorem dX0_alike_5 : decode cX0_alike 5 = .ok (.ifCond .eq 7, 3) := by decide +kernel
theorem dX0_alike_8 : decode cX0_alike 8 = .ok (.iload_n 1, 1) := by decide +kernel
theorem dX0_alike_9 : decode cX0_alike 9 = .ok (.goto 6, 3) := by decide +kernel
theorem dX0_alike_12 : decode cX0_alike 12 = .ok (.iload_n 1, 1) := by decide +kernel
theorem dX0_alike_13 : decode cX0_alike 13 = .ok (.iconst (-1), 1) := by decide +kernel
theorem dX0_alike_14 : decode cX0_alike 14 = .ok (.ixor, 1) := by decide +kernel
theorem dX0_alike_15 : decode cX0_alike 15 = .ok (.ireturn, 1) := by decide +kernel
theorem dX1_init_0 : decode cX1_init 0 = .ok (.aload_n 0, 1) := by decide +kernel
theorem dX1_init_1 : decode cX1_init 1 = .ok (.invokespecial 3, 3) := by decide +kernel
theorem dX1_init_4 : decode cX1_init 4 = .ok (.aload_n 0, 1) := by decide +kernel
theorem dX1_init_5 : decode cX1_init 5 = .ok (.aload_n 1, 1) := by decide +kernel
theorem dX1_init_6 : decode cX1_init 6 = .ok (.putfield 9, 3) := by decide +kernel
theorem dX1_init_9 : decode cX1_init 9 = .ok (.return_, 1) := by decide +kernel
theorem dX1_readItems_0 : decode cX1_readItems 0 = .ok (.aload_n 0, 1) := by decide +kernel
theorem dX1_readItems_1 : decode cX1_readItems 1 = .ok (.iconst 0, 1) := by decide +kernel
theorem dX1_readItems_2 : decode cX1_readItems 2 = .ok (.putfield 15, 3) := by decide +kernel
theorem dX1_readItems_5 : decode cX1_readItems 5 = .ok (.aload_n 0, 1) := by decide +kernel
theorem dX1_readItems_6 : decode cX1_readItems 6 = .ok (.invokevirtual 19, 3) := by decide +kernel
theorem dX1_readItems_9 : decode cX1_readItems 9 = .ok (.iconst 0, 1) := by decide +kernel
theorem dX1_readItems_10 : decode cX1_readItems 10 = .ok (.istore_n 2, 1) := by decide +kernel
theorem dX1_readItems_11 : decode cX1_readItems 11 = .ok (.iload_n 2, 1) := by decide +kernel
theorem dX1_readItems_12 : decode cX1_readItems 12 = .ok (.bipush 120, 2) := by decide +kernel
theorem dX1_readItems_14 : decode cX1_readItems 14 = .ok (.if_icmp .ge 52, 3) := by decide +kernel
theorem dX1_readItems_17 : decode cX1_readItems 17 = .ok (.aload_n 0, 1) := by decide +kernel
theorem dX1_readItems_18 : decode cX1_readItems 18 = .ok (.aload_n 1, 1) := by decide +kernel
theorem dX1_readItems_19 : decode cX1_readItems 19 = .ok (.invokevirtual 22, 3) := by decide +kernel
theorem dX1_readItems_22 : decode cX1_readItems 22 = .ok (.ifCond .ne 10, 3) := by decide +kernel
theorem dX1_readItems_25 : decode cX1_readItems 25 = .ok (.iconst (-1), 1) := by decide +kernel
theorem dX1_readItems_26 : decode cX1_readItems 26 = .ok (.aload_n 0, 1) := by decide +kernel
theorem dX1_readItems_27 : decode cX1_readItems 27 = .ok (.getfield 26, 3) := by decide +kernel
theorem dX1_readItems_30 : decode cX1_readItems 30 = .ok (.isub, 1) := by decide +kernel
theorem dX1_readItems_31 : decode cX1_readItems 31 = .ok (.ireturn, 1) := by decide +kernel
theorem dX1_readItems_32 : decode cX1_readItems 32 = .ok (.iinc 2 1, 3) := by decide +kernel
theorem dX1_readItems_35 : decode cX1_readItems 35 = .ok (.aload_n 0, 1) := by decide +kernel
theorem dX1_readItems_36 : decode cX1_readItems 36 = .ok (.getfield 29, 3) := by decide +kernel
theorem dX1_readItems_39 : decode cX1_readItems 39 = .ok (.ifCond .ne 5, 3) := by decide +kernel
theorem dX1_readItems_42 : decode cX1_readItems 42 = .ok (.iload_n 2, 1) := by decide +kernel
theorem dX1_readItems_43 : decode cX1_readItems 43 = .ok (.ireturn, 1) := by decide +kernel
theorem dX1_readItems_44 : decode cX1_readItems 44 = .ok (.aload_n 0, 1) := by decide +kernel
theorem dX1_readItems_45 : decode cX1_readItems 45 = .ok (.getfield 29, 3) := by decide +kernel
theorem dX1_readItems_48 : decode cX1_readItems 48 = .ok (.iconst 3, 1) := by decide +kernel
theorem dX1_readItems_49 : decode cX1_readItems 49 = .ok (.if_icmp .eq 10, 3) := by decide +kernel
theorem dX1_readItems_52 : decode cX1_readItems 52 = .ok (.iconst (-1), 1) := by decide +kernel
theorem dX1_readItems_53 : decode cX1_readItems 53 = .ok (.aload_n 0, 1) := by decide +kernel
theorem dX1_readItems_54 : decode cX1_readItems 54 = .ok (.getfield 26, 3) := by decide +kernel
theorem dX1_readItems_57 : decode cX1_readItems 57 = .ok (.isub, 1) := by decide +kernel
theorem dX1_readItems_58 : decode cX1_readItems 58 = .ok (.ireturn, 1) := by decide +kernel
theorem dX1_readItems_59 : decode cX1_readItems 59 = .ok (.aload_n 0, 1) := by decide +kernel
theorem dX1_readItems_60 : decode cX1_readItems 60 = .ok (.invokevirtual 19, 3) := by decide +kernel
theorem dX1_readItems_63 : decode cX1_readItems 63 = .ok (.goto (-52), 3) := by decide +kernel
theorem dX1_readItems_66 : decode cX1_readItems 66 = .ok (.iconst (-1), 1) := by decide +kernel
theorem dX1_readItems_67 : decode cX1_readItems 67 = .ok (.aload_n 0, 1) := by decide +kernel
theorem dX1_readItems_68 : decode cX1_readItems 68 = .ok (.getfield 26, 3) := by decide +kernel
theorem dX1_readItems_71 : decode cX1_readItems 71 = .ok (.isub, 1) := by decide +kernel
theorem dX1_readItems_72 : decode cX1_readItems 72 = .ok (.ireturn, 1) := by decide +kernel
theorem dX1_readItem_0 : decode cX1_readItem 0 = .ok (.aload_n 0, 1) := by decide +kernel
theorem dX1_readItem_1 : decode cX1_readItem 1 = .ok (.ldc 32, 2) := by decide +kernel
theorem dX1_readItem_3 : decode cX1_readItem 3 = .ok (.invokevirtual 34, 3) := by decide +kernel
theorem dX1_readItem_6 : decode cX1_readItem 6 = .ok (.ifCond .eq 33, 3) := by decide +kernel
theorem dX1_readItem_9 : decode cX1_readItem 9 = .ok (.aload_n 0, 1) := by decide +kernel
theorem dX1_readItem_10 : decode cX1_readItem 10 = .ok (.invokevirtual 19, 3) := by decide +kernel
theorem dX1_readItem_13 : decode cX1_readItem 13 = .ok (.aload_n 0, 1) := by decide +kernel
theorem dX1_readItem_14 : decode cX1_readItem 14 = .ok (.iconst 0, 1) := by decide +kernel
theorem dX1_readItem_15 : decode cX1_readItem 15 = .ok (.bipush 99, 2) := by decide +kernel
theorem dX1_readItem_17 : decode cX1_readItem 17 = .ok (.invokevirtual 38, 3) := by decide +kernel
theorem dX1_readItem_20 : decode cX1_readItem 20 = .ok (.ifCond .ne 5, 3) := by decide +kernel
theorem dX1_readItem_23 : decode cX1_readItem 23 = .ok (.iconst 0, 1) := by decide +kernel
theorem dX1_readItem_24 : decode cX1_readItem 24 = .ok (.ireturn, 1) := by decide +kernel
theorem dX1_readItem_25 : decode cX1_readItem 25 = .ok (.aload_n 1, 1) := by decide +kernel
theorem dX1_readItem_26 : decode cX1_readItem 26 = .ok (.aload_n 0, 1) := by decide +kernel
theorem dX1_readItem_27 : decode cX1_readItem 27 = .ok (.getfield 42, 3) := by decide +kernel
theorem dX1_readItem_30 : decode cX1_readItem 30 = .ok (.putfield 45, 3) := by decide +kernel
theorem dX1_readItem_33 : decode cX1_readItem 33 = .ok (.aload_n 0, 1) := by decide +kernel
theorem dX1_readItem_34 : decode cX1_readItem 34 = .ok (.invokevirtual 19, 3) := by decide +kernel
theorem dX1_readItem_37 : decode cX1_readItem 37 = .ok (.iconst 1, 1) := by decide +kernel
theorem dX1_readItem_38 : decode cX1_readItem 38 = .ok (.ireturn, 1) := by decide +kernel
theorem dX1_readItem_39 : decode cX1_readItem 39 = .ok (.aload_n 0, 1) := by decide +kernel
theorem dX1_readItem_40 : decode cX1_readItem 40 = .ok (.invokevirtual 49, 3) := by decide +kernel
theorem dX1_readItem_43 : decode cX1_readItem 43 = .ok (.istore_n 2, 1) := by decide +kernel
theorem dX1_readItem_44 : decode cX1_readItem 44 = .ok (.iload_n 2, 1) := by decide +kernel
theorem dX1_readItem_45 : decode cX1_readItem 45 = .ok (.iconst (-1), 1) := by decide +kernel
theorem dX1_readItem_46 : decode cX1_readItem 46 = .ok (.if_icmp .eq 12, 3) := by decide +kernel
theorem dX1_readItem_49 : decode cX1_readItem 49 = .ok (.aload_n 1, 1) := by decide +kernel
theorem dX1_readItem_50 : decode cX1_readItem 50 = .ok (.getfield 53, 3) := by decide +kernel
theorem dX1_readItem_53 : decode cX1_readItem 53 = .ok (.bipush 12, 2) := by decide +kernel
theorem dX1_readItem_55 : decode cX1_readItem 55 = .ok (.if_icmp .lt 5, 3) := by decide +kernel
theorem dX1_readItem_58 : decode cX1_readItem 58 = .ok (.iconst 0, 1) := by decide +kernel
theorem dX1_readItem_59 : decode cX1_readItem 59 = .ok (.ireturn, 1) := by decide +kernel
theorem dX1_readItem_60 : decode cX1_readItem 60 = .ok (.aload_n 1, 1) := by decide +kernel
theorem dX1_readItem_61 : decode cX1_readItem 61 = .ok (.iload_n 2, 1) := by decide +kernel
theorem dX1_readItem_62 : decode cX1_readItem 62 = .ok (.invokevirtual 56, 3) := by decide +kernel
theorem dX1_readItem_65 : decode cX1_readItem 65 = .ok (.istore_n 3, 1) := by decide +kernel
theorem dX1_readItem_66 : decode cX1_readItem 66 = .ok (.aload_n 0, 1) := by decide +kernel
theorem dX1_readItem_67 : decode cX1_readItem 67 = .ok (.invokevirtual 19, 3) := by decide +kernel
theorem dX1_readItem_70 : decode cX1_readItem 70 = .ok (.aload_n 0, 1) := by decide +kernel
theorem dX1_readItem_71 : decode cX1_readItem 71 = .ok (.aload_n 1, 1) := by decide +kernel
theorem dX1_readItem_72 : decode cX1_readItem 72 = .ok (.iload_n 3, 1) := by decide +kernel
theorem dX1_readItem_73 : decode cX1_readItem 73 = .ok (.invokevirtual 60, 3) := by decide +kernel
theorem dX1_readItem_76 : decode cX1_readItem 76 = .ok (.ifCond .eq 34, 3) := by decide +kernel
theorem dX1_readItem_79 : decode cX1_readItem 79 = .ok (.aload_n 0, 1) := by decide +kernel
theorem dX1_readItem_80 : decode cX1_readItem 80 = .ok (.aload_n 1, 1) := by decide +kernel
theorem dX1_readItem_81 : decode cX1_readItem 81 = .ok (.iload_n 3, 1) := by decide +kernel
theorem dX1_readItem_82 : decode cX1_readItem 82 = .ok (.invokevirtual 64, 3) := by decide +kernel
theorem dX1_readItem_85 : decode cX1_readItem 85 = .ok (.ifCond .eq 25, 3) := by decide +kernel
theorem dX1_readItem_88 : decode cX1_readItem 88 = .ok (.aload_n 0, 1) := by decide +kernel
theorem dX1_readItem_89 : decode cX1_readItem 89 = .ok (.aload_n 1, 1) := by decide +kernel
theorem dX1_readItem_90 : decode cX1_readItem 90 = .ok (.iload_n 3, 1) := by decide +kernel
theorem dX1_readItem_91 : decode cX1_readItem 91 = .ok (.invokevirtual 67, 3) := by decide +kernel
theorem dX1_readItem_94 : decode cX1_readItem 94 = .ok (.ifCond .eq 16, 3) := by decide +kernel
theorem dX1_readItem_97 : decode cX1_readItem 97 = .ok (.aload_n 0, 1) := by decide +kernel
theorem dX1_readItem_98 : decode cX1_readItem 98 = .ok (.aload_n 1, 1) := by decide +kernel
theorem dX1_readItem_99 : decode cX1_readItem 99 = .ok (.iload_n 3, 1) := by decide +kernel
theorem dX1_readItem_100 : decode cX1_readItem 100 = .ok (.invokevirtual 70, 3) := by decide +kernel
theorem dX1_readItem_103 : decode cX1_readItem 103 = .ok (.ifCond .eq 7, 3) := by decide +kernel
theorem dX1_readItem_106 : decode cX1_readItem 106 = .ok (.iconst 1, 1) := by decide +kernel
theorem dX1_readItem_107 : decode cX1_readItem 107 = .ok (.goto 4, 3) := by decide +kernel
theorem dX1_readItem_110 : decode cX1_readItem 110 = .ok (.iconst 0, 1) := by decide +kernel
theorem dX1_readItem_111 : decode cX1_readItem 111 = .ok (.ireturn, 1) := by decide +kernel
theorem dX1_readPlace_0 : decode cX1_readPlace 0 = .ok (.aload_n 0, 1) := by decide +kernel
theorem dX1_readPlace_1 : decode cX1_readPlace 1 = .ok (.ldc 73, 2) := by decide +kernel
theorem dX1_readPlace_3 : decode cX1_readPlace 3 = .ok (.invokevirtual 34, 3) := by decide +kernel
theorem dX1_readPlace_6 : decode cX1_readPlace 6 = .ok (.ifCond .ne 5, 3) := by decide +kernel
theorem dX1_readPlace_9 : decode cX1_readPlace 9 = .ok (.iconst 1, 1) := by decide +kernel
theorem dX1_readPlace_10 : decode cX1_readPlace 10 = .ok (.ireturn, 1) := by decide +kernel
theorem dX1_readPlace_11 : decode cX1_readPlace 11 = .ok (.aload_n 0, 1) := by decide +kernel
theorem dX1_readPlace_12 : decode cX1_readPlace 12 = .ok (.invokevirtual 19, 3) := by decide +kernel
theorem dX1_readPlace_15 : decode cX1_readPlace 15 = .ok (.aload_n 0, 1) := by decide +kernel
theorem dX1_readPlace_16 : decode cX1_readPlace 16 = .ok (.iconst 0, 1) := by decide +kernel
theorem dX1_readPlace_17 : decode cX1_readPlace 17 = .ok (.bipush 23, 2) := by decide +kernel
theorem dX1_readPlace_19 : decode cX1_readPlace 19 = .ok (.invokevirtual 38, 3) := by decide +kernel
theorem dX1_readPlace_22 : decode cX1_readPlace 22 = .ok (.ifCond .eq 14, 3) := by decide +kernel
theorem dX1_readPlace_25 : decode cX1_readPlace 25 = .ok (.aload_n 1, 1) := by decide +kernel
theorem dX1_readPlace_26 : decode cX1_readPlace 26 = .ok (.aload_n 0, 1) := by decide +kernel
theorem dX1_readPlace_27 : decode cX1_readPlace 27 = .ok (.getfield 42, 3) := by decide +kernel
theorem dX1_readPlace_30 : decode cX1_readPlace 30 = .ok (.invokevirtual 75, 3) := by decide +kernel
theorem dX1_readPlace_33 : decode cX1_readPlace 33 = .ok (.ifCond .ne 5, 3) := by decide +kernel
theorem dX1_readPlace_36 : decode cX1_readPlace 36 = .ok (.iconst 0, 1) := by decide +kernel
theorem dX1_readPlace_37 : decode cX1_readPlace 37 = .ok (.ireturn, 1) := by decide +kernel
theorem dX1_readPlace_38 : decode cX1_readPlace 38 = .ok (.aload_n 1, 1) := by decide +kernel
theorem dX1_readPlace_39 : decode cX1_readPlace 39 = .ok (.iload_n 2, 1) := by decide +kernel
theorem dX1_readPlace_40 : decode cX1_readPlace 40 = .ok (.aload_n 0, 1) := by decide +kernel
theorem dX1_readPlace_41 : decode cX1_readPlace 41 = .ok (.getfield 42, 3) := by decide +kernel
theorem dX1_readPlace_44 : decode cX1_readPlace 44 = .ok (.invokevirtual 79, 3) := by decide +kernel
theorem dX1_readPlace_47 : decode cX1_readPlace 47 = .ok (.aload_n 0, 1) := by decide +kernel
theorem dX1_readPlace_48 : decode cX1_readPlace 48 = .ok (.invokevirtual 19, 3) := by decide +kernel
theorem dX1_readPlace_51 : decode cX1_readPlace 51 = .ok (.iconst 1, 1) := by decide +kernel
theorem dX1_readPlace_52 : decode cX1_readPlace 52 = .ok (.ireturn, 1) := by decide +kernel
theorem dX1_readBack_0 : decode cX1_readBack 0 = .ok (.aload_n 0, 1) := by decide +kernel
theorem dX1_readBack_1 : decode cX1_readBack 1 = .ok (.ldc 83, 2) := by decide +kernel
theorem dX1_readBack_3 : decode cX1_readBack 3 = .ok (.invokevirtual 34, 3) := by decide +kernel
theorem dX1_readBack_6 : decode cX1_readBack 6 = .ok (.ifCond .eq 19, 3) := by decide +kernel
theorem dX1_readBack_9 : decode cX1_readBack 9 = .ok (.aload_n 1, 1) := by decide +kernel
theorem dX1_readBack_10 : decode cX1_readBack 10 = .ok (.dup, 1) := by decide +kernel
theorem dX1_readBack_11 : decode cX1_readBack 11 = .ok (.getfield 85, 3) := by decide +kernel
theorem dX1_readBack_14 : decode cX1_readBack 14 = .ok (.iconst 1, 1) := by decide +kernel
theorem dX1_readBack_15 : decode cX1_readBack 15 = .ok (.iload_n 2, 1) := by decide +kernel
theorem dX1_readBack_16 : decode cX1_readBack 16 = .ok (.ishl, 1) := by decide +kernel
theorem dX1_readBack_17 : decode cX1_readBack 17 = .ok (.ior, 1) := by decide +kernel
theorem dX1_readBack_18 : decode cX1_readBack 18 = .ok (.putfield 85, 3) := by decide +kernel
theorem dX1_readBack_21 : decode cX1_readBack 21 = .ok (.aload_n 0, 1) := by decide +kernel
theorem dX1_readBack_22 : decode cX1_readBack 22 = .ok (.invokevirtual 19, 3) := by decide +kernel
theorem dX1_readBack_25 : decode cX1_readBack 25 = .ok (.iconst 1, 1) := by decide +kernel
theorem dX1_readBack_26 : decode cX1_readBack 26 = .ok (.ireturn, 1) := by decide +kernel
theorem dX1_readShirt_0 : decode cX1_readShirt 0 = .ok (.aload_n 0, 1) := by decide +kernel
theorem dX1_readShirt_1 : decode cX1_readShirt 1 = .ok (.ldc 87, 2) := by decide +kernel
theorem dX1_readShirt_3 : decode cX1_readShirt 3 = .ok (.invokevirtual 34, 3) := by decide +kernel
theorem dX1_readShirt_6 : decode cX1_readShirt 6 = .ok (.ifCond .ne 5, 3) := by decide +kernel
theorem dX1_readShirt_9 : decode cX1_readShirt 9 = .ok (.iconst 1, 1) := by decide +kernel
theorem dX1_readShirt_10 : decode cX1_readShirt 10 = .ok (.ireturn, 1) := by decide +kernel
theorem dX1_readShirt_11 : decode cX1_readShirt 11 = .ok (.aload_n 0, 1) := by decide +kernel
theorem dX1_readShirt_12 : decode cX1_readShirt 12 = .ok (.invokevirtual 19, 3) := by decide +kernel
theorem dX1_readShirt_15 : decode cX1_readShirt 15 = .ok (.aload_n 0, 1) := by decide +kernel
theorem dX1_readShirt_16 : decode cX1_readShirt 16 = .ok (.iconst 1, 1) := by decide +kernel
theorem dX1_readShirt_17 : decode cX1_readShirt 17 = .ok (.bipush 9, 2) := by decide +kernel
theorem dX1_readShirt_19 : decode cX1_readShirt 19 = .ok (.invokevirtual 38, 3) := by decide +kernel
theorem dX1_readShirt_22 : decode cX1_readShirt 22 = .ok (.ifCond .ne 5, 3) := by decide +kernel
theorem dX1_readShirt_25 : decode cX1_readShirt 25 = .ok (.iconst 0, 1) := by decide +kernel
theorem dX1_readShirt_26 : decode cX1_readShirt 26 = .ok (.ireturn, 1) := by decide +kernel
theorem dX1_readShirt_27 : decode cX1_readShirt 27 = .ok (.aload_n 1, 1) := by decide +kernel
theorem dX1_readShirt_28 : decode cX1_readShirt 28 = .ok (.getfield 89, 3) := by decide +kernel
theorem dX1_readShirt_31 : decode cX1_readShirt 31 = .ok (.iload_n 2, 1) := by decide +kernel
theorem dX1_readShirt_32 : decode cX1_readShirt 32 = .ok (.aload_n 0, 1) := by decide +kernel
theorem dX1_readShirt_33 : decode cX1_readShirt 33 = .ok (.getfield 42, 3) := by decide +kernel
theorem dX1_readShirt_36 : decode cX1_readShirt 36 = .ok (.iastore, 1) := by decide +kernel
theorem dX1_readShirt_37 : decode cX1_readShirt 37 = .ok (.aload_n 0, 1) := by decide +kernel
theorem dX1_readShirt_38 : decode cX1_readShirt 38 = .ok (.invokevirtual 19, 3) := by decide +kernel
theorem dX1_readShirt_41 : decode cX1_readShirt 41 = .ok (.iconst 1, 1) := by decide +kernel
theorem dX1_readShirt_42 : decode cX1_readShirt 42 = .ok (.ireturn, 1) := by decide +kernel
theorem dX1_readFeel_0 : decode cX1_readFeel 0 = .ok (.aload_n 0, 1) := by decide +kernel
theorem dX1_readFeel_1 : decode cX1_readFeel 1 = .ok (.ldc 93, 2) := by decide +kernel
theorem dX1_readFeel_3 : decode cX1_readFeel 3 = .ok (.invokevirtual 34, 3) := by decide +kernel
theorem dX1_readFeel_6 : decode cX1_readFeel 6 = .ok (.ifCond .ne 5, 3) := by decide +kernel
theorem dX1_readFeel_9 : decode cX1_readFeel 9 = .ok (.iconst 1, 1) := by decide +kernel
theorem dX1_readFeel_10 : decode cX1_readFeel 10 = .ok (.ireturn, 1) := by decide +kernel
theorem dX1_readFeel_11 : decode cX1_readFeel 11 = .ok (.aload_n 0, 1) := by decide +kernel
theorem dX1_readFeel_12 : decode cX1_readFeel 12 = .ok (.invokevirtual 19, 3) := by decide +kernel
theorem dX1_readFeel_15 : decode cX1_readFeel 15 = .ok (.aload_n 0, 1) := by decide +kernel
theorem dX1_readFeel_16 : decode cX1_readFeel 16 = .ok (.iconst 0, 1) := by decide +kernel
theorem dX1_readFeel_17 : decode cX1_readFeel 17 = .ok (.bipush 15, 2) := by decide +kernel
theorem dX1_readFeel_19 : decode cX1_readFeel 19 = .ok (.invokevirtual 38, 3) := by decide +kernel
theorem dX1_readFeel_22 : decode cX1_readFeel 22 = .ok (.ifCond .ne 5, 3) := by decide +kernel
theorem dX1_readFeel_25 : decode cX1_readFeel 25 = .ok (.iconst 0, 1) := by decide +kernel
theorem dX1_readFeel_26 : decode cX1_readFeel 26 = .ok (.ireturn, 1) := by decide +kernel
theorem dX1_readFeel_27 : decode cX1_readFeel 27 = .ok (.aload_n 1, 1) := by decide +kernel
theorem dX1_readFeel_28 : decode cX1_readFeel 28 = .ok (.getfield 95, 3) := by decide +kernel
theorem dX1_readFeel_31 : decode cX1_readFeel 31 = .ok (.iload_n 2, 1) := by decide +kernel
theorem dX1_readFeel_32 : decode cX1_readFeel 32 = .ok (.aload_n 0, 1) := by decide +kernel
theorem dX1_readFeel_33 : decode cX1_readFeel 33 = .ok (.getfield 42, 3) := by decide +kernel
theorem dX1_readFeel_36 : decode cX1_readFeel 36 = .ok (.iastore, 1) := by decide +kernel
theorem dX1_readFeel_37 : decode cX1_readFeel 37 = .ok (.aload_n 0, 1) := by decide +kernel
theorem dX1_readFeel_38 : decode cX1_readFeel 38 = .ok (.invokevirtual 19, 3) := by decide +kernel
theorem dX1_readFeel_41 : decode cX1_readFeel 41 = .ok (.iconst 1, 1) := by decide +kernel
theorem dX1_readFeel_42 : decode cX1_readFeel 42 = .ok (.ireturn, 1) := by decide +kernel
theorem dX1_isNumber_0 : decode cX1_isNumber 0 = .ok (.aload_n 0, 1) := by decide +kernel
theorem dX1_isNumber_1 : decode cX1_isNumber 1 = .ok (.getfield 29, 3) := by decide +kernel
theorem dX1_isNumber_4 : decode cX1_isNumber 4 = .ok (.iconst 2, 1) := by decide +kernel
theorem dX1_isNumber_5 : decode cX1_isNumber 5 = .ok (.if_icmp .ne 23, 3) := by decide +kernel
theorem dX1_isNumber_8 : decode cX1_isNumber 8 = .ok (.aload_n 0, 1) := by decide +kernel
theorem dX1_isNumber_9 : decode cX1_isNumber 9 = .ok (.getfield 42, 3) := by decide +kernel
theorem dX1_isNumber_12 : decode cX1_isNumber 12 = .ok (.iload_n 1, 1) := by decide +kernel
theorem dX1_isNumber_13 : decode cX1_isNumber 13 = .ok (.if_icmp .lt 15, 3) := by decide +kernel
theorem dX1_isNumber_16 : decode cX1_isNumber 16 = .ok (.aload_n 0, 1) := by decide +kernel
theorem dX1_isNumber_17 : decode cX1_isNumber 17 = .ok (.getfield 42, 3) := by decide +kernel
theorem dX1_isNumber_20 : decode cX1_isNumber 20 = .ok (.iload_n 2, 1) := by decide +kernel
theorem dX1_isNumber_21 : decode cX1_isNumber 21 = .ok (.if_icmp .gt 7, 3) := by decide +kernel
theorem dX1_isNumber_24 : decode cX1_isNumber 24 = .ok (.iconst 1, 1) := by decide +kernel
theorem dX1_isNumber_25 : decode cX1_isNumber 25 = .ok (.goto 4, 3) := by decide +kernel
theorem dX1_isNumber_28 : decode cX1_isNumber 28 = .ok (.iconst 0, 1) := by decide +kernel
theorem dX1_isNumber_29 : decode cX1_isNumber 29 = .ok (.ireturn, 1) := by decide +kernel
theorem dX1_isWord_0 : decode cX1_isWord 0 = .ok (.aload_n 0, 1) := by decide +kernel
theorem dX1_isWord_1 : decode cX1_isWord 1 = .ok (.getfield 29, 3) := by decide +kernel
theorem dX1_isWord_4 : decode cX1_isWord 4 = .ok (.iconst 1, 1) := by decide +kernel
theorem dX1_isWord_5 : decode cX1_isWord 5 = .ok (.if_icmp .ne 19, 3) := by decide +kernel
theorem dX1_isWord_8 : decode cX1_isWord 8 = .ok (.aload_n 0, 1) := by decide +kernel
theorem dX1_isWord_9 : decode cX1_isWord 9 = .ok (.getfield 15, 3) := by decide +kernel
theorem dX1_isWord_12 : decode cX1_isWord 12 = .ok (.aload_n 0, 1) := by decide +kernel
theorem dX1_isWord_13 : decode cX1_isWord 13 = .ok (.getfield 26, 3) := by decide +kernel
theorem dX1_isWord_16 : decode cX1_isWord 16 = .ok (.isub, 1) := by decide +kernel
theorem dX1_isWord_17 : decode cX1_isWord 17 = .ok (.aload_n 1, 1) := by decide +kernel
theorem dX1_isWord_18 : decode cX1_isWord 18 = .ok (.invokevirtual 98, 3) := by decide +kernel
theorem dX1_isWord_21 : decode cX1_isWord 21 = .ok (.if_icmp .eq 5, 3) := by decide +kernel
theorem dX1_isWord_24 : decode cX1_isWord 24 = .ok (.iconst 0, 1) := by decide +kernel
theorem dX1_isWord_25 : decode cX1_isWord 25 = .ok (.ireturn, 1) := by decide +kernel
theorem dX1_isWord_26 : decode cX1_isWord 26 = .ok (.iconst 0, 1) := by decide +kernel
theorem dX1_isWord_27 : decode cX1_isWord 27 = .ok (.istore_n 2, 1) := by decide +kernel
theorem dX1_isWord_28 : decode cX1_isWord 28 = .ok (.iload_n 2, 1) := by decide +kernel
theorem dX1_isWord_29 : decode cX1_isWord 29 = .ok (.aload_n 1, 1) := by decide +kernel
theorem dX1_isWord_30 : decode cX1_isWord 30 = .ok (.invokevirtual 98, 3) := by decide +kernel
theorem dX1_isWord_33 : decode cX1_isWord 33 = .ok (.if_icmp .ge 33, 3) := by decide +kernel
theorem dX1_isWord_36 : decode cX1_isWord 36 = .ok (.aload_n 0, 1) := by decide +kernel
theorem dX1_isWord_37 : decode cX1_isWord 37 = .ok (.getfield 9, 3) := by decide +kernel
theorem dX1_isWord_40 : decode cX1_isWord 40 = .ok (.getfield 103, 3) := by decide +kernel
theorem dX1_isWord_43 : decode cX1_isWord 43 = .ok (.aload_n 0, 1) := by decide +kernel
theorem dX1_isWord_44 : decode cX1_isWord 44 = .ok (.getfield 26, 3) := by decide +kernel
theorem dX1_isWord_47 : decode cX1_isWord 47 = .ok (.iload_n 2, 1) := by decide +kernel
theorem dX1_isWord_48 : decode cX1_isWord 48 = .ok (.iadd, 1) := by decide +kernel
theorem dX1_isWord_49 : decode cX1_isWord 49 = .ok (.baload, 1) := by decide +kernel
theorem dX1_isWord_50 : decode cX1_isWord 50 = .ok (.aload_n 1, 1) := by decide +kernel
theorem dX1_isWord_51 : decode cX1_isWord 51 = .ok (.iload_n 2, 1) := by decide +kernel
theorem dX1_isWord_52 : decode cX1_isWord 52 = .ok (.invokevirtual 109, 3) := by decide +kernel
theorem dX1_isWord_55 : decode cX1_isWord 55 = .ok (.if_icmp .eq 5, 3) := by decide +kernel
theorem dX1_isWord_58 : decode cX1_isWord 58 = .ok (.iconst 0, 1) := by decide +kernel
theorem dX1_isWord_59 : decode cX1_isWord 59 = .ok (.ireturn, 1) := by decide +kernel
theorem dX1_isWord_60 : decode cX1_isWord 60 = .ok (.iinc 2 1, 3) := by decide +kernel
theorem dX1_isWord_63 : decode cX1_isWord 63 = .ok (.goto (-35), 3) := by decide +kernel
theorem dX1_isWord_66 : decode cX1_isWord 66 = .ok (.iconst 1, 1) := by decide +kernel
theorem dX1_isWord_67 : decode cX1_isWord 67 = .ok (.ireturn, 1) := by decide +kernel
theorem dX1_namedKind_0 : decode cX1_namedKind 0 = .ok (.iconst 0, 1) := by decide +kernel
theorem dX1_namedKind_1 : decode cX1_namedKind 1 = .ok (.istore_n 1, 1) := by decide +kernel
theorem dX1_namedKind_2 : decode cX1_namedKind 2 = .ok (.iload_n 1, 1) := by decide +kernel
theorem dX1_namedKind_3 : decode cX1_namedKind 3 = .ok (.bipush 6, 2) := by decide +kernel
theorem dX1_namedKind_5 : decode cX1_namedKind 5 = .ok (.if_icmp .ge 22, 3) := by decide +kernel
theorem dX1_namedKind_8 : decode cX1_namedKind 8 = .ok (.aload_n 0, 1) := by decide +kernel
theorem dX1_namedKind_9 : decode cX1_namedKind 9 = .ok (.iload_n 1, 1) := by decide +kernel
theorem dX1_namedKind_10 : decode cX1_namedKind 10 = .ok (.invokestatic 113, 3) := by decide +kernel
theorem dX1_namedKind_13 : decode cX1_namedKind 13 = .ok (.invokevirtual 34, 3) := by decide +kernel
theorem dX1_namedKind_16 : decode cX1_namedKind 16 = .ok (.ifCond .eq 5, 3) := by decide +kernel
theorem dX1_namedKind_19 : decode cX1_namedKind 19 = .ok (.iload_n 1, 1) := by decide +kernel
theorem dX1_namedKind_20 : decode cX1_namedKind 20 = .ok (.ireturn, 1) := by decide +kernel
theorem dX1_namedKind_21 : decode cX1_namedKind 21 = .ok (.iinc 1 1, 3) := by decide +kernel
theorem dX1_namedKind_24 : decode cX1_namedKind 24 = .ok (.goto (-22), 3) := by decide +kernel
theorem dX1_namedKind_27 : decode cX1_namedKind 27 = .ok (.iconst (-1), 1) := by decide +kernel
theorem dX1_namedKind_28 : decode cX1_namedKind 28 = .ok (.ireturn, 1) := by decide +kernel
theorem dX1_step_0 : decode cX1_step 0 = .ok (.aload_n 0, 1) := by decide +kernel
theorem dX1_step_1 : decode cX1_step 1 = .ok (.aload_n 0, 1) := by decide +kernel
theorem dX1_step_2 : decode cX1_step 2 = .ok (.getfield 15, 3) := by decide +kernel
theorem dX1_step_5 : decode cX1_step 5 = .ok (.putfield 26, 3) := by decide +kernel
theorem dX1_step_8 : decode cX1_step 8 = .ok (.aload_n 0, 1) := by decide +kernel
theorem dX1_step_9 : decode cX1_step 9 = .ok (.getfield 26, 3) := by decide +kernel
theorem dX1_step_12 : decode cX1_step 12 = .ok (.aload_n 0, 1) := by decide +kernel
theorem dX1_step_13 : decode cX1_step 13 = .ok (.getfield 9, 3) := by decide +kernel
theorem dX1_step_16 : decode cX1_step 16 = .ok (.getfield 117, 3) := by decide +kernel
theorem dX1_step_19 : decode cX1_step 19 = .ok (.if_icmp .ge 33, 3) := by decide +kernel
theorem dX1_step_22 : decode cX1_step 22 = .ok (.aload_n 0, 1) := by decide +kernel
theorem dX1_step_23 : decode cX1_step 23 = .ok (.getfield 9, 3) := by decide +kernel
theorem dX1_step_26 : decode cX1_step 26 = .ok (.getfield 103, 3) := by decide +kernel
theorem dX1_step_29 : decode cX1_step 29 = .ok (.aload_n 0, 1) := by decide +kernel
theorem dX1_step_30 : decode cX1_step 30 = .ok (.getfield 26, 3) := by decide +kernel
theorem dX1_step_33 : decode cX1_step 33 = .ok (.baload, 1) := by decide +kernel
theorem dX1_step_34 : decode cX1_step 34 = .ok (.bipush 32, 2) := by decide +kernel
theorem dX1_step_36 : decode cX1_step 36 = .ok (.if_icmp .ne 16, 3) := by decide +kernel
theorem dX1_step_39 : decode cX1_step 39 = .ok (.aload_n 0, 1) := by decide +kernel
theorem dX1_step_40 : decode cX1_step 40 = .ok (.dup, 1) := by decide +kernel
theorem dX1_step_41 : decode cX1_step 41 = .ok (.getfield 26, 3) := by decide +kernel
theorem dX1_step_44 : decode cX1_step 44 = .ok (.iconst 1, 1) := by decide +kernel
theorem dX1_step_45 : decode cX1_step 45 = .ok (.iadd, 1) := by decide +kernel
theorem dX1_step_46 : decode cX1_step 46 = .ok (.putfield 26, 3) := by decide +kernel
theorem dX1_step_49 : decode cX1_step 49 = .ok (.goto (-41), 3) := by decide +kernel
theorem dX1_step_52 : decode cX1_step 52 = .ok (.aload_n 0, 1) := by decide +kernel
theorem dX1_step_53 : decode cX1_step 53 = .ok (.aload_n 0, 1) := by decide +kernel
theorem dX1_step_54 : decode cX1_step 54 = .ok (.getfield 26, 3) := by decide +kernel
theorem dX1_step_57 : decode cX1_step 57 = .ok (.putfield 15, 3) := by decide +kernel
theorem dX1_step_60 : decode cX1_step 60 = .ok (.aload_n 0, 1) := by decide +kernel
theorem dX1_step_61 : decode cX1_step 61 = .ok (.getfield 26, 3) := by decide +kernel
theorem dX1_step_64 : decode cX1_step 64 = .ok (.aload_n 0, 1) := by decide +kernel
theorem dX1_step_65 : decode cX1_step 65 = .ok (.getfield 9, 3) := by decide +kernel
theorem dX1_step_68 : decode cX1_step 68 = .ok (.getfield 117, 3) := by decide +kernel
theorem dX1_step_71 : decode cX1_step 71 = .ok (.if_icmp .lt 11, 3) := by decide +kernel
theorem dX1_step_74 : decode cX1_step 74 = .ok (.aload_n 0, 1) := by decide +kernel
theorem dX1_step_75 : decode cX1_step 75 = .ok (.iconst 0, 1) := by decide +kernel
theorem dX1_step_76 : decode cX1_step 76 = .ok (.putfield 29, 3) := by decide +kernel
theorem dX1_step_79 : decode cX1_step 79 = .ok (.goto 89, 3) := by decide +kernel
theorem dX1_step_82 : decode cX1_step 82 = .ok (.aload_n 0, 1) := by decide +kernel
theorem dX1_step_83 : decode cX1_step 83 = .ok (.getfield 9, 3) := by decide +kernel
theorem dX1_step_86 : decode cX1_step 86 = .ok (.getfield 103, 3) := by decide +kernel
theorem dX1_step_89 : decode cX1_step 89 = .ok (.aload_n 0, 1) := by decide +kernel
theorem dX1_step_90 : decode cX1_step 90 = .ok (.getfield 26, 3) := by decide +kernel
theorem dX1_step_93 : decode cX1_step 93 = .ok (.baload, 1) := by decide +kernel
theorem dX1_step_94 : decode cX1_step 94 = .ok (.invokestatic 119, 3) := by decide +kernel
theorem dX1_step_97 : decode cX1_step 97 = .ok (.ifCond .eq 10, 3) := by decide +kernel
theorem dX1_step_100 : decode cX1_step 100 = .ok (.aload_n 0, 1) := by decide +kernel
theorem dX1_step_101 : decode cX1_step 101 = .ok (.invokevirtual 123, 3) := by decide +kernel
theorem dX1_step_104 : decode cX1_step 104 = .ok (.goto 64, 3) := by decide +kernel
theorem dX1_step_107 : decode cX1_step 107 = .ok (.aload_n 0, 1) := by decide +kernel
theorem dX1_step_108 : decode cX1_step 108 = .ok (.getfield 9, 3) := by decide +kernel
theorem dX1_step_111 : decode cX1_step 111 = .ok (.getfield 103, 3) := by decide +kernel
theorem dX1_step_114 : decode cX1_step 114 = .ok (.aload_n 0, 1) := by decide +kernel
theorem dX1_step_115 : decode cX1_step 115 = .ok (.getfield 26, 3) := by decide +kernel
theorem dX1_step_118 : decode cX1_step 118 = .ok (.baload, 1) := by decide +kernel
theorem dX1_step_119 : decode cX1_step 119 = .ok (.invokestatic 126, 3) := by decide +kernel
theorem dX1_step_122 : decode cX1_step 122 = .ok (.ifCond .eq 10, 3) := by decide +kernel
theorem dX1_step_125 : decode cX1_step 125 = .ok (.aload_n 0, 1) := by decide +kernel
theorem dX1_step_126 : decode cX1_step 126 = .ok (.invokevirtual 129, 3) := by decide +kernel
theorem dX1_step_129 : decode cX1_step 129 = .ok (.goto 39, 3) := by decide +kernel
theorem dX1_step_132 : decode cX1_step 132 = .ok (.aload_n 0, 1) := by decide +kernel
theorem dX1_step_133 : decode cX1_step 133 = .ok (.aload_n 0, 1) := by decide +kernel
theorem dX1_step_134 : decode cX1_step 134 = .ok (.getfield 9, 3) := by decide +kernel
theorem dX1_step_137 : decode cX1_step 137 = .ok (.getfield 103, 3) := by decide +kernel
theorem dX1_step_140 : decode cX1_step 140 = .ok (.aload_n 0, 1) := by decide +kernel
theorem dX1_step_141 : decode cX1_step 141 = .ok (.getfield 26, 3) := by decide +kernel
theorem dX1_step_144 : decode cX1_step 144 = .ok (.baload, 1) := by decide +kernel
theorem dX1_step_145 : decode cX1_step 145 = .ok (.bipush 59, 2) := by decide +kernel
theorem dX1_step_147 : decode cX1_step 147 = .ok (.if_icmp .ne 7, 3) := by decide +kernel
theorem dX1_step_150 : decode cX1_step 150 = .ok (.iconst 3, 1) := by decide +kernel
theorem dX1_step_151 : decode cX1_step 151 = .ok (.goto 4, 3) := by decide +kernel
theorem dX1_step_154 : decode cX1_step 154 = .ok (.iconst 4, 1) := by decide +kernel
theorem dX1_step_155 : decode cX1_step 155 = .ok (.putfield 29, 3) := by decide +kernel
theorem dX1_step_158 : decode cX1_step 158 = .ok (.aload_n 0, 1) := by decide +kernel
theorem dX1_step_159 : decode cX1_step 159 = .ok (.aload_n 0, 1) := by decide +kernel
theorem dX1_step_160 : decode cX1_step 160 = .ok (.getfield 26, 3) := by decide +kernel
theorem dX1_step_163 : decode cX1_step 163 = .ok (.iconst 1, 1) := by decide +kernel
theorem dX1_step_164 : decode cX1_step 164 = .ok (.iadd, 1) := by decide +kernel
theorem dX1_step_165 : decode cX1_step 165 = .ok (.putfield 15, 3) := by decide +kernel
theorem dX1_step_168 : decode cX1_step 168 = .ok (.return_, 1) := by decide +kernel
theorem dX1_stepWord_0 : decode cX1_stepWord 0 = .ok (.aload_n 0, 1) := by decide +kernel
theorem dX1_stepWord_1 : decode cX1_stepWord 1 = .ok (.iconst 1, 1) := by decide +kernel
theorem dX1_stepWord_2 : decode cX1_stepWord 2 = .ok (.putfield 29, 3) := by decide +kernel
theorem dX1_stepWord_5 : decode cX1_stepWord 5 = .ok (.aload_n 0, 1) := by decide +kernel
theorem dX1_stepWord_6 : decode cX1_stepWord 6 = .ok (.getfield 15, 3) := by decide +kernel
theorem dX1_stepWord_9 : decode cX1_stepWord 9 = .ok (.aload_n 0, 1) := by decide +kernel
theorem dX1_stepWord_10 : decode cX1_stepWord 10 = .ok (.getfield 9, 3) := by decide +kernel
theorem dX1_stepWord_13 : decode cX1_stepWord 13 = .ok (.getfield 117, 3) := by decide +kernel
theorem dX1_stepWord_16 : decode cX1_stepWord 16 = .ok (.if_icmp .ge 34, 3) := by decide +kernel
theorem dX1_stepWord_19 : decode cX1_stepWord 19 = .ok (.aload_n 0, 1) := by decide +kernel
theorem dX1_stepWord_20 : decode cX1_stepWord 20 = .ok (.getfield 9, 3) := by decide +kernel
theorem dX1_stepWord_23 : decode cX1_stepWord 23 = .ok (.getfield 103, 3) := by decide +kernel
theorem dX1_stepWord_26 : decode cX1_stepWord 26 = .ok (.aload_n 0, 1) := by decide +kernel
theorem dX1_stepWord_27 : decode cX1_stepWord 27 = .ok (.getfield 15, 3) := by decide +kernel
theorem dX1_stepWord_30 : decode cX1_stepWord 30 = .ok (.baload, 1) := by decide +kernel
theorem dX1_stepWord_31 : decode cX1_stepWord 31 = .ok (.invokestatic 119, 3) := by decide +kernel
theorem dX1_stepWord_34 : decode cX1_stepWord 34 = .ok (.ifCond .eq 16, 3) := by decide +kernel
theorem dX1_stepWord_37 : decode cX1_stepWord 37 = .ok (.aload_n 0, 1) := by decide +kernel
theorem dX1_stepWord_38 : decode cX1_stepWord 38 = .ok (.dup, 1) := by decide +kernel
theorem dX1_stepWord_39 : decode cX1_stepWord 39 = .ok (.getfield 15, 3) := by decide +kernel
theorem dX1_stepWord_42 : decode cX1_stepWord 42 = .ok (.iconst 1, 1) := by decide +kernel
theorem dX1_stepWord_43 : decode cX1_stepWord 43 = .ok (.iadd, 1) := by decide +kernel
theorem dX1_stepWord_44 : decode cX1_stepWord 44 = .ok (.putfield 15, 3) := by decide +kernel
theorem dX1_stepWord_47 : decode cX1_stepWord 47 = .ok (.goto (-42), 3) := by decide +kernel
theorem dX1_stepWord_50 : decode cX1_stepWord 50 = .ok (.return_, 1) := by decide +kernel
theorem dX1_stepNumber_0 : decode cX1_stepNumber 0 = .ok (.aload_n 0, 1) := by decide +kernel
theorem dX1_stepNumber_1 : decode cX1_stepNumber 1 = .ok (.iconst 2, 1) := by decide +kernel
theorem dX1_stepNumber_2 : decode cX1_stepNumber 2 = .ok (.putfield 29, 3) := by decide +kernel
theorem dX1_stepNumber_5 : decode cX1_stepNumber 5 = .ok (.aload_n 0, 1) := by decide +kernel
theorem dX1_stepNumber_6 : decode cX1_stepNumber 6 = .ok (.iconst 0, 1) := by decide +kernel
theorem dX1_stepNumber_7 : decode cX1_stepNumber 7 = .ok (.putfield 42, 3) := by decide +kernel
theorem dX1_stepNumber_10 : decode cX1_stepNumber 10 = .ok (.aload_n 0, 1) := by decide +kernel
theorem dX1_stepNumber_11 : decode cX1_stepNumber 11 = .ok (.getfield 15, 3) := by decide +kernel
theorem dX1_stepNumber_14 : decode cX1_stepNumber 14 = .ok (.aload_n 0, 1) := by decide +kernel
theorem dX1_stepNumber_15 : decode cX1_stepNumber 15 = .ok (.getfield 9, 3) := by decide +kernel
theorem dX1_stepNumber_18 : decode cX1_stepNumber 18 = .ok (.getfield 117, 3) := by decide +kernel
theorem dX1_stepNumber_21 : decode cX1_stepNumber 21 = .ok (.if_icmp .ge 67, 3) := by decide +kernel
theorem dX1_stepNumber_24 : decode cX1_stepNumber 24 = .ok (.aload_n 0, 1) := by decide +kernel
theorem dX1_stepNumber_25 : decode cX1_stepNumber 25 = .ok (.getfield 9, 3) := by decide +kernel
theorem dX1_stepNumber_28 : decode cX1_stepNumber 28 = .ok (.getfield 103, 3) := by decide +kernel
theorem dX1_stepNumber_31 : decode cX1_stepNumber 31 = .ok (.aload_n 0, 1) := by decide +kernel
theorem dX1_stepNumber_32 : decode cX1_stepNumber 32 = .ok (.getfield 15, 3) := by decide +kernel
theorem dX1_stepNumber_35 : decode cX1_stepNumber 35 = .ok (.baload, 1) := by decide +kernel
theorem dX1_stepNumber_36 : decode cX1_stepNumber 36 = .ok (.invokestatic 126, 3) := by decide +kernel
theorem dX1_stepNumber_39 : decode cX1_stepNumber 39 = .ok (.ifCond .eq 49, 3) := by decide +kernel
theorem dX1_stepNumber_42 : decode cX1_stepNumber 42 = .ok (.aload_n 0, 1) := by decide +kernel
theorem dX1_stepNumber_43 : decode cX1_stepNumber 43 = .ok (.aload_n 0, 1) := by decide +kernel
theorem dX1_stepNumber_44 : decode cX1_stepNumber 44 = .ok (.getfield 42, 3) := by decide +kernel
theorem dX1_stepNumber_47 : decode cX1_stepNumber 47 = .ok (.bipush 10, 2) := by decide +kernel
theorem dX1_stepNumber_49 : decode cX1_stepNumber 49 = .ok (.imul, 1) := by decide +kernel
theorem dX1_stepNumber_50 : decode cX1_stepNumber 50 = .ok (.aload_n 0, 1) := by decide +kernel
theorem dX1_stepNumber_51 : decode cX1_stepNumber 51 = .ok (.getfield 9, 3) := by decide +kernel
theorem dX1_stepNumber_54 : decode cX1_stepNumber 54 = .ok (.getfield 103, 3) := by decide +kernel
theorem dX1_stepNumber_57 : decode cX1_stepNumber 57 = .ok (.aload_n 0, 1) := by decide +kernel
theorem dX1_stepNumber_58 : decode cX1_stepNumber 58 = .ok (.getfield 15, 3) := by decide +kernel
theorem dX1_stepNumber_61 : decode cX1_stepNumber 61 = .ok (.baload, 1) := by decide +kernel
theorem dX1_stepNumber_62 : decode cX1_stepNumber 62 = .ok (.iadd, 1) := by decide +kernel
theorem dX1_stepNumber_63 : decode cX1_stepNumber 63 = .ok (.bipush 48, 2) := by decide +kernel
theorem dX1_stepNumber_65 : decode cX1_stepNumber 65 = .ok (.isub, 1) := by decide +kernel
theorem dX1_stepNumber_66 : decode cX1_stepNumber 66 = .ok (.sipush 1000, 3) := by decide +kernel
theorem dX1_stepNumber_69 : decode cX1_stepNumber 69 = .ok (.invokestatic 132, 3) := by decide +kernel
theorem dX1_stepNumber_72 : decode cX1_stepNumber 72 = .ok (.putfield 42, 3) := by decide +kernel
theorem dX1_stepNumber_75 : decode cX1_stepNumber 75 = .ok (.aload_n 0, 1) := by decide +kernel
theorem dX1_stepNumber_76 : decode cX1_stepNumber 76 = .ok (.dup, 1) := by decide +kernel
theorem dX1_stepNumber_77 : decode cX1_stepNumber 77 = .ok (.getfield 15, 3) := by decide +kernel
theorem dX1_stepNumber_80 : decode cX1_stepNumber 80 = .ok (.iconst 1, 1) := by decide +kernel
theorem dX1_stepNumber_81 : decode cX1_stepNumber 81 = .ok (.iadd, 1) := by decide +kernel
theorem dX1_stepNumber_82 : decode cX1_stepNumber 82 = .ok (.putfield 15, 3) := by decide +kernel
theorem dX1_stepNumber_85 : decode cX1_stepNumber 85 = .ok (.goto (-75), 3) := by decide +kernel
theorem dX1_stepNumber_88 : decode cX1_stepNumber 88 = .ok (.return_, 1) := by decide +kernel
theorem dX1_isLetter_0 : decode cX1_isLetter 0 = .ok (.iload_n 0, 1) := by decide +kernel
theorem dX1_isLetter_1 : decode cX1_isLetter 1 = .ok (.bipush 97, 2) := by decide +kernel
theorem dX1_isLetter_3 : decode cX1_isLetter 3 = .ok (.if_icmp .lt 13, 3) := by decide +kernel
theorem dX1_isLetter_6 : decode cX1_isLetter 6 = .ok (.iload_n 0, 1) := by decide +kernel
theorem dX1_isLetter_7 : decode cX1_isLetter 7 = .ok (.bipush 122, 2) := by decide +kernel
theorem dX1_isLetter_9 : decode cX1_isLetter 9 = .ok (.if_icmp .gt 7, 3) := by decide +kernel
theorem dX1_isLetter_12 : decode cX1_isLetter 12 = .ok (.iconst 1, 1) := by decide +kernel
theorem dX1_isLetter_13 : decode cX1_isLetter 13 = .ok (.goto 4, 3) := by decide +kernel
theorem dX1_isLetter_16 : decode cX1_isLetter 16 = .ok (.iconst 0, 1) := by decide +kernel
theorem dX1_isLetter_17 : decode cX1_isLetter 17 = .ok (.ireturn, 1) := by decide +kernel
theorem dX1_isDigit_0 : decode cX1_isDigit 0 = .ok (.iload_n 0, 1) := by decide +kernel
theorem dX1_isDigit_1 : decode cX1_isDigit 1 = .ok (.bipush 48, 2) := by decide +kernel
theorem dX1_isDigit_3 : decode cX1_isDigit 3 = .ok (.if_icmp .lt 13, 3) := by decide +kernel
theorem dX1_isDigit_6 : decode cX1_isDigit 6 = .ok (.iload_n 0, 1) := by decide +kernel
theorem dX1_isDigit_7 : decode cX1_isDigit 7 = .ok (.bipush 57, 2) := by decide +kernel
theorem dX1_isDigit_9 : decode cX1_isDigit 9 = .ok (.if_icmp .gt 7, 3) := by decide +kernel
theorem dX1_isDigit_12 : decode cX1_isDigit 12 = .ok (.iconst 1, 1) := by decide +kernel
theorem dX1_isDigit_13 : decode cX1_isDigit 13 = .ok (.goto 4, 3) := by decide +kernel
theorem dX1_isDigit_16 : decode cX1_isDigit 16 = .ok (.iconst 0, 1) := by decide +kernel
theorem dX1_isDigit_17 : decode cX1_isDigit 17 = .ok (.ireturn, 1) := by decide +kernel
theorem dX2_init_0 : decode cX2_init 0 = .ok (.aload_n 0, 1) := by decide +kernel
theorem dX2_init_1 : decode cX2_init 1 = .ok (.invokespecial 3, 3) := by decide +kernel
theorem dX2_init_4 : decode cX2_init 4 = .ok (.aload_n 0, 1) := by decide +kernel
theorem dX2_init_5 : decode cX2_init 5 = .ok (.bipush 40, 2) := by decide +kernel
theorem dX2_init_7 : decode cX2_init 7 = .ok (.newarray .long, 2) := by decide +kernel
theorem dX2_init_9 : decode cX2_init 9 = .ok (.putfield 9, 3) := by decide +kernel
theorem dX2_init_12 : decode cX2_init 12 = .ok (.return_, 1) := by decide +kernel
theorem dX2_isMissing_0 : decode cX2_isMissing 0 = .ok (.aload_n 0, 1) := by decide +kernel
theorem dX2_isMissing_1 : decode cX2_isMissing 1 = .ok (.getfield 15, 3) := by decide +kernel
theorem dX2_isMissing_4 : decode cX2_isMissing 4 = .ok (.ifCond .ne 7, 3) := by decide +kernel
theorem dX2_isMissing_7 : decode cX2_isMissing 7 = .ok (.iconst 1, 1) := by decide +kernel
theorem dX2_isMissing_8 : decode cX2_isMissing 8 = .ok (.goto 4, 3) := by decide +kernel
theorem dX2_isMissing_11 : decode cX2_isMissing 11 = .ok (.iconst 0, 1) := by decide +kernel
theorem dX2_isMissing_12 : decode cX2_isMissing 12 = .ok (.ireturn, 1) := by decide +kernel
theorem dX2_lay_0 : decode cX2_lay 0 = .ok (.aload_n 0, 1) := by decide +kernel
theorem dX2_lay_1 : decode cX2_lay 1 = .ok (.iload_n 1, 1) := by decide +kernel
theorem dX2_lay_2 : decode cX2_lay 2 = .ok (.putfield 15, 3) := by decide +kernel
theorem dX2_lay_5 : decode cX2_lay 5 = .ok (.aload_n 0, 1) := by decide +kernel
theorem dX2_lay_6 : decode cX2_lay 6 = .ok (.iload_n 2, 1) := by decide +kernel
theorem dX2_lay_7 : decode cX2_lay 7 = .ok (.putfield 19, 3) := by decide +kernel
theorem dX2_lay_10 : decode cX2_lay 10 = .ok (.iconst 0, 1) := by decide +kernel
theorem dX2_lay_11 : decode cX2_lay 11 = .ok (.istore_n 3, 1) := by decide +kernel
theorem dX2_lay_12 : decode cX2_lay 12 = .ok (.iload_n 3, 1) := by decide +kernel
theorem dX2_lay_13 : decode cX2_lay 13 = .ok (.bipush 40, 2) := by decide +kernel
theorem dX2_lay_15 : decode cX2_lay 15 = .ok (.if_icmp .ge 16, 3) := by decide +kernel
theorem dX2_lay_18 : decode cX2_lay 18 = .ok (.aload_n 0, 1) := by decide +kernel
theorem dX2_lay_19 : decode cX2_lay 19 = .ok (.getfield 9, 3) := by decide +kernel
theorem dX2_lay_22 : decode cX2_lay 22 = .ok (.iload_n 3, 1) := by decide +kernel
theorem dX2_lay_23 : decode cX2_lay 23 = .ok (.lconst 0, 1) := by decide +kernel
theorem dX2_lay_24 : decode cX2_lay 24 = .ok (.lastore, 1) := by decide +kernel
theorem dX2_lay_25 : decode cX2_lay 25 = .ok (.iinc 3 1, 3) := by decide +kernel
theorem dX2_lay_28 : decode cX2_lay 28 = .ok (.goto (-16), 3) := by decide +kernel
theorem dX2_lay_31 : decode cX2_lay 31 = .ok (.return_, 1) := by decide +kernel
theorem dX2_put_0 : decode cX2_put 0 = .ok (.aload_n 0, 1) := by decide +kernel
theorem dX2_put_1 : decode cX2_put 1 = .ok (.getfield 15, 3) := by decide +kernel
theorem dX2_put_4 : decode cX2_put 4 = .ok (.bipush 8, 2) := by decide +kernel
theorem dX2_put_6 : decode cX2_put 6 = .ok (.if_icmp .ne 16, 3) := by decide +kernel
theorem dX2_put_9 : decode cX2_put 9 = .ok (.aload_n 0, 1) := by decide +kernel
theorem dX2_put_10 : decode cX2_put 10 = .ok (.getfield 9, 3) := by decide +kernel
theorem dX2_put_13 : decode cX2_put 13 = .ok (.iload_n 1, 1) := by decide +kernel
theorem dX2_put_14 : decode cX2_put 14 = .ok (.lload_n 2, 1) := by decide +kernel
theorem dX2_put_15 : decode cX2_put 15 = .ok (.l2i, 1) := by decide +kernel
theorem dX2_put_16 : decode cX2_put 16 = .ok (.i2b, 1) := by decide +kernel
theorem dX2_put_17 : decode cX2_put 17 = .ok (.i2l, 1) := by decide +kernel
theorem dX2_put_18 : decode cX2_put 18 = .ok (.lastore, 1) := by decide +kernel
theorem dX2_put_19 : decode cX2_put 19 = .ok (.goto 32, 3) := by decide +kernel
theorem dX2_put_22 : decode cX2_put 22 = .ok (.aload_n 0, 1) := by decide +kernel
theorem dX2_put_23 : decode cX2_put 23 = .ok (.getfield 15, 3) := by decide +kernel
theorem dX2_put_26 : decode cX2_put 26 = .ok (.bipush 16, 2) := by decide +kernel
theorem dX2_put_28 : decode cX2_put 28 = .ok (.if_icmp .ne 16, 3) := by decide +kernel
theorem dX2_put_31 : decode cX2_put 31 = .ok (.aload_n 0, 1) := by decide +kernel
theorem dX2_put_32 : decode cX2_put 32 = .ok (.getfield 9, 3) := by decide +kernel
theorem dX2_put_35 : decode cX2_put 35 = .ok (.iload_n 1, 1) := by decide +kernel
theorem dX2_put_36 : decode cX2_put 36 = .ok (.lload_n 2, 1) := by decide +kernel
theorem dX2_put_37 : decode cX2_put 37 = .ok (.l2i, 1) := by decide +kernel
theorem dX2_put_38 : decode cX2_put 38 = .ok (.i2s, 1) := by decide +kernel
theorem dX2_put_39 : decode cX2_put 39 = .ok (.i2l, 1) := by decide +kernel
theorem dX2_put_40 : decode cX2_put 40 = .ok (.lastore, 1) := by decide +kernel
theorem dX2_put_41 : decode cX2_put 41 = .ok (.goto 10, 3) := by decide +kernel
theorem dX2_put_44 : decode cX2_put 44 = .ok (.aload_n 0, 1) := by decide +kernel
theorem dX2_put_45 : decode cX2_put 45 = .ok (.getfield 9, 3) := by decide +kernel
theorem dX2_put_48 : decode cX2_put 48 = .ok (.iload_n 1, 1) := by decide +kernel
theorem dX2_put_49 : decode cX2_put 49 = .ok (.lload_n 2, 1) := by decide +kernel
theorem dX2_put_50 : decode cX2_put 50 = .ok (.lastore, 1) := by decide +kernel
theorem dX2_put_51 : decode cX2_put 51 = .ok (.return_, 1) := by decide +kernel
theorem dX2_hasRun_0 : decode cX2_hasRun 0 = .ok (.iload_n 1, 1) := by decide +kernel
theorem dX2_hasRun_1 : decode cX2_hasRun 1 = .ok (.ifCond .lt 21, 3) := by decide +kernel
theorem dX2_hasRun_4 : decode cX2_hasRun 4 = .ok (.iload_n 2, 1) := by decide +kernel
theorem dX2_hasRun_5 : decode cX2_hasRun 5 = .ok (.ifCond .lt 17, 3) := by decide +kernel
theorem dX2_hasRun_8 : decode cX2_hasRun 8 = .ok (.iload_n 1, 1) := by decide +kernel
theorem dX2_hasRun_9 : decode cX2_hasRun 9 = .ok (.aload_n 0, 1) := by decide +kernel
theorem dX2_hasRun_10 : decode cX2_hasRun 10 = .ok (.getfield 19, 3) := by decide +kernel
theorem dX2_hasRun_13 : decode cX2_hasRun 13 = .ok (.iload_n 2, 1) := by decide +kernel
theorem dX2_hasRun_14 : decode cX2_hasRun 14 = .ok (.isub, 1) := by decide +kernel
theorem dX2_hasRun_15 : decode cX2_hasRun 15 = .ok (.if_icmp .gt 7, 3) := by decide +kernel
theorem dX2_hasRun_18 : decode cX2_hasRun 18 = .ok (.iconst 1, 1) := by decide +kernel
theorem dX2_hasRun_19 : decode cX2_hasRun 19 = .ok (.goto 4, 3) := by decide +kernel
theorem dX2_hasRun_22 : decode cX2_hasRun 22 = .ok (.iconst 0, 1) := by decide +kernel
theorem dX2_hasRun_23 : decode cX2_hasRun 23 = .ok (.ireturn, 1) := by decide +kernel
theorem dX3_init_0 : decode cX3_init 0 = .ok (.aload_n 0, 1) := by decide +kernel
theorem dX3_init_1 : decode cX3_init 1 = .ok (.invokespecial 3, 3) := by decide +kernel
theorem dX3_init_4 : decode cX3_init 4 = .ok (.aload_n 0, 1) := by decide +kernel
theorem dX3_init_5 : decode cX3_init 5 = .ok (.bipush 12, 2) := by decide +kernel
theorem dX3_init_7 : decode cX3_init 7 = .ok (.newarray .int, 2) := by decide +kernel
theorem dX3_init_9 : decode cX3_init 9 = .ok (.putfield 9, 3) := by decide +kernel
theorem dX3_init_12 : decode cX3_init 12 = .ok (.aload_n 0, 1) := by decide +kernel
theorem dX3_init_13 : decode cX3_init 13 = .ok (.bipush 12, 2) := by decide +kernel
theorem dX3_init_15 : decode cX3_init 15 = .ok (.newarray .int, 2) := by decide +kernel
theorem dX3_init_17 : decode cX3_init 17 = .ok (.putfield 15, 3) := by decide +kernel
theorem dX3_init_20 : decode cX3_init 20 = .ok (.aload_n 0, 1) := by decide +kernel
theorem dX3_init_21 : decode cX3_init 21 = .ok (.bipush 12, 2) := by decide +kernel
theorem dX3_init_23 : decode cX3_init 23 = .ok (.newarray .int, 2) := by decide +kernel
theorem dX3_init_25 : decode cX3_init 25 = .ok (.putfield 18, 3) := by decide +kernel
theorem dX3_init_28 : decode cX3_init 28 = .ok (.return_, 1) := by decide +kernel
theorem dX3_look_0 : decode cX3_look 0 = .ok (.iconst 0, 1) := by decide +kernel
theorem dX3_look_1 : decode cX3_look 1 = .ok (.istore_n 2, 1) := by decide +kernel
theorem dX3_look_2 : decode cX3_look 2 = .ok (.iload_n 2, 1) := by decide +kernel
theorem dX3_look_3 : decode cX3_look 3 = .ok (.bipush 12, 2) := by decide +kernel
theorem dX3_look_5 : decode cX3_look 5 = .ok (.if_icmp .ge 94, 3) := by decide +kernel
theorem dX3_look_8 : decode cX3_look 8 = .ok (.aload_n 1, 1) := by decide +kernel
theorem dX3_look_9 : decode cX3_look 9 = .ok (.iload_n 2, 1) := by decide +kernel
theorem dX3_look_10 : decode cX3_look 10 = .ok (.invokevirtual 21, 3) := by decide +kernel
theorem dX3_look_13 : decode cX3_look 13 = .ok (.istore_n 3, 1) := by decide +kernel
theorem dX3_look_14 : decode cX3_look 14 = .ok (.aload_n 1, 1) := by decide +kernel
theorem dX3_look_15 : decode cX3_look 15 = .ok (.getfield 27, 3) := by decide +kernel
theorem dX3_look_18 : decode cX3_look 18 = .ok (.iload_n 2, 1) := by decide +kernel
theorem dX3_look_19 : decode cX3_look 19 = .ok (.iaload, 1) := by decide +kernel
theorem dX3_look_20 : decode cX3_look 20 = .ok (.istore 4, 2) := by decide +kernel
theorem dX3_look_22 : decode cX3_look 22 = .ok (.aload_n 1, 1) := by decide +kernel
theorem dX3_look_23 : decode cX3_look 23 = .ok (.getfield 30, 3) := by decide +kernel
theorem dX3_look_26 : decode cX3_look 26 = .ok (.iload_n 2, 1) := by decide +kernel
theorem dX3_look_27 : decode cX3_look 27 = .ok (.iaload, 1) := by decide +kernel
theorem dX3_look_28 : decode cX3_look 28 = .ok (.istore 5, 2) := by decide +kernel
theorem dX3_look_30 : decode cX3_look 30 = .ok (.aload_n 0, 1) := by decide +kernel
theorem dX3_look_31 : decode cX3_look 31 = .ok (.getfield 9, 3) := by decide +kernel
theorem dX3_look_34 : decode cX3_look 34 = .ok (.iload_n 2, 1) := by decide +kernel
theorem dX3_look_35 : decode cX3_look 35 = .ok (.iload_n 3, 1) := by decide +kernel
theorem dX3_look_36 : decode cX3_look 36 = .ok (.ifCond .eq 16, 3) := by decide +kernel
theorem dX3_look_39 : decode cX3_look 39 = .ok (.aload_n 1, 1) := by decide +kernel
theorem dX3_look_40 : decode cX3_look 40 = .ok (.iload_n 2, 1) := by decide +kernel
theorem dX3_look_41 : decode cX3_look 41 = .ok (.iload 4, 2) := by decide +kernel
theorem dX3_look_43 : decode cX3_look 43 = .ok (.iload 5, 2) := by decide +kernel
theorem dX3_look_45 : decode cX3_look 45 = .ok (.iconst 1, 1) := by decide +kernel
theorem dX3_look_46 : decode cX3_look 46 = .ok (.invokevirtual 33, 3) := by decide +kernel
theorem dX3_look_49 : decode cX3_look 49 = .ok (.goto 4, 3) := by decide +kernel
theorem dX3_look_52 : decode cX3_look 52 = .ok (.iconst 0, 1) := by decide +kernel
theorem dX3_look_53 : decode cX3_look 53 = .ok (.iastore, 1) := by decide +kernel
theorem dX3_look_54 : decode cX3_look 54 = .ok (.aload_n 0, 1) := by decide +kernel
theorem dX3_look_55 : decode cX3_look 55 = .ok (.getfield 15, 3) := by decide +kernel
theorem dX3_look_58 : decode cX3_look 58 = .ok (.iload_n 2, 1) := by decide +kernel
theorem dX3_look_59 : decode cX3_look 59 = .ok (.iload_n 3, 1) := by decide +kernel
theorem dX3_look_60 : decode cX3_look 60 = .ok (.ifCond .eq 16, 3) := by decide +kernel
theorem dX3_look_63 : decode cX3_look 63 = .ok (.aload_n 1, 1) := by decide +kernel
theorem dX3_look_64 : decode cX3_look 64 = .ok (.iload_n 2, 1) := by decide +kernel
theorem dX3_look_65 : decode cX3_look 65 = .ok (.iload 4, 2) := by decide +kernel
theorem dX3_look_67 : decode cX3_look 67 = .ok (.iload 5, 2) := by decide +kernel
theorem dX3_look_69 : decode cX3_look 69 = .ok (.iconst 0, 1) := by decide +kernel
theorem dX3_look_70 : decode cX3_look 70 = .ok (.invokevirtual 33, 3) := by decide +kernel
theorem dX3_look_73 : decode cX3_look 73 = .ok (.goto 4, 3) := by decide +kernel
theorem dX3_look_76 : decode cX3_look 76 = .ok (.iconst 0, 1) := by decide +kernel
theorem dX3_look_77 : decode cX3_look 77 = .ok (.iastore, 1) := by decide +kernel
theorem dX3_look_78 : decode cX3_look 78 = .ok (.aload_n 0, 1) := by decide +kernel
theorem dX3_look_79 : decode cX3_look 79 = .ok (.getfield 18, 3) := by decide +kernel
theorem dX3_look_82 : decode cX3_look 82 = .ok (.iload_n 2, 1) := by decide +kernel
theorem dX3_look_83 : decode cX3_look 83 = .ok (.aload_n 0, 1) := by decide +kernel
theorem dX3_look_84 : decode cX3_look 84 = .ok (.iload_n 2, 1) := by decide +kernel
theorem dX3_look_85 : decode cX3_look 85 = .ok (.aload_n 1, 1) := by decide +kernel
theorem dX3_look_86 : decode cX3_look 86 = .ok (.getfield 37, 3) := by decide +kernel
theorem dX3_look_89 : decode cX3_look 89 = .ok (.invokevirtual 41, 3) := by decide +kernel
theorem dX3_look_92 : decode cX3_look 92 = .ok (.iastore, 1) := by decide +kernel
theorem dX3_look_93 : decode cX3_look 93 = .ok (.iinc 2 1, 3) := by decide +kernel
theorem dX3_look_96 : decode cX3_look 96 = .ok (.goto (-94), 3) := by decide +kernel
theorem dX3_look_99 : decode cX3_look 99 = .ok (.return_, 1) := by decide +kernel
theorem dX3_nearFacing_0 : decode cX3_nearFacing 0 = .ok (.iload_n 1, 1) := by decide +kernel
theorem dX3_nearFacing_1 : decode cX3_nearFacing 1 = .ok (.iload_n 2, 1) := by decide +kernel
theorem dX3_nearFacing_2 : decode cX3_nearFacing 2 = .ok (.invokestatic 45, 3) := by decide +kernel
theorem dX3_nearFacing_5 : decode cX3_nearFacing 5 = .ok (.istore_n 3, 1) := by decide +kernel
theorem dX3_nearFacing_6 : decode cX3_nearFacing 6 = .ok (.aload_n 0, 1) := by decide +kernel
theorem dX3_nearFacing_7 : decode cX3_nearFacing 7 = .ok (.getfield 9, 3) := by decide +kernel
theorem dX3_nearFacing_10 : decode cX3_nearFacing 10 = .ok (.iload_n 1, 1) := by decide +kernel
theorem dX3_nearFacing_11 : decode cX3_nearFacing 11 = .ok (.iaload, 1) := by decide +kernel
theorem dX3_nearFacing_12 : decode cX3_nearFacing 12 = .ok (.iload_n 3, 1) := by decide +kernel
theorem dX3_nearFacing_13 : decode cX3_nearFacing 13 = .ok (.iand, 1) := by decide +kernel
theorem dX3_nearFacing_14 : decode cX3_nearFacing 14 = .ok (.aload_n 0, 1) := by decide +kernel
theorem dX3_nearFacing_15 : decode cX3_nearFacing 15 = .ok (.getfield 15, 3) := by decide +kernel
theorem dX3_nearFacing_18 : decode cX3_nearFacing 18 = .ok (.iload_n 1, 1) := by decide +kernel
theorem dX3_nearFacing_19 : decode cX3_nearFacing 19 = .ok (.iaload, 1) := by decide +kernel
theorem dX3_nearFacing_20 : decode cX3_nearFacing 20 = .ok (.iload_n 3, 1) := by decide +kernel
theorem dX3_nearFacing_21 : decode cX3_nearFacing 21 = .ok (.iconst (-1), 1) := by decide +kernel
theorem dX3_nearFacing_22 : decode cX3_nearFacing 22 = .ok (.ixor, 1) := by decide +kernel
theorem dX3_nearFacing_23 : decode cX3_nearFacing 23 = .ok (.iand, 1) := by decide +kernel
theorem dX3_nearFacing_24 : decode cX3_nearFacing 24 = .ok (.ior, 1) := by decide +kernel
theorem dX3_nearFacing_25 : decode cX3_nearFacing 25 = .ok (.ireturn, 1) := by decide +kernel
theorem dX3_pairs_0 : decode cX3_pairs 0 = .ok (.iconst 0, 1) := by decide +kernel
theorem dX3_pairs_1 : decode cX3_pairs 1 = .ok (.istore_n 2, 1) := by decide +kernel
theorem dX3_pairs_2 : decode cX3_pairs 2 = .ok (.iconst 0, 1) := by decide +kernel
theorem dX3_pairs_3 : decode cX3_pairs 3 = .ok (.istore_n 3, 1) := by decide +kernel
theorem dX3_pairs_4 : decode cX3_pairs 4 = .ok (.iload_n 3, 1) := by decide +kernel
theorem dX3_pairs_5 : decode cX3_pairs 5 = .ok (.bipush 12, 2) := by decide +kernel
theorem dX3_pairs_7 : decode cX3_pairs 7 = .ok (.if_icmp .ge 21, 3) := by decide +kernel
theorem dX3_pairs_10 : decode cX3_pairs 10 = .ok (.iload_n 2, 1) := by decide +kernel
theorem dX3_pairs_11 : decode cX3_pairs 11 = .ok (.aload_n 0, 1) := by decide +kernel
theorem dX3_pairs_12 : decode cX3_pairs 12 = .ok (.iload_n 3, 1) := by decide +kernel
theorem dX3_pairs_13 : decode cX3_pairs 13 = .ok (.iload_n 1, 1) := by decide +kernel
theorem dX3_pairs_14 : decode cX3_pairs 14 = .ok (.invokevirtual 41, 3) := by decide +kernel
theorem dX3_pairs_17 : decode cX3_pairs 17 = .ok (.invokestatic 48, 3) := by decide +kernel
theorem dX3_pairs_20 : decode cX3_pairs 20 = .ok (.iadd, 1) := by decide +kernel
theorem dX3_pairs_21 : decode cX3_pairs 21 = .ok (.istore_n 2, 1) := by decide +kernel
theorem dX3_pairs_22 : decode cX3_pairs 22 = .ok (.iinc 3 1, 3) := by decide +kernel
theorem dX3_pairs_25 : decode cX3_pairs 25 = .ok (.goto (-21), 3) := by decide +kernel
theorem dX3_pairs_28 : decode cX3_pairs 28 = .ok (.iload_n 2, 1) := by decide +kernel
theorem dX3_pairs_29 : decode cX3_pairs 29 = .ok (.iconst 2, 1) := by decide +kernel
theorem dX3_pairs_30 : decode cX3_pairs 30 = .ok (.idiv, 1) := by decide +kernel
theorem dX3_pairs_31 : decode cX3_pairs 31 = .ok (.ireturn, 1) := by decide +kernel
theorem dX3_all_0 : decode cX3_all 0 = .ok (.iconst 0, 1) := by decide +kernel
theorem dX3_all_1 : decode cX3_all 1 = .ok (.istore_n 1, 1) := by decide +kernel
theorem dX3_all_2 : decode cX3_all 2 = .ok (.iconst 0, 1) := by decide +kernel
theorem dX3_all_3 : decode cX3_all 3 = .ok (.istore_n 2, 1) := by decide +kernel
theorem dX3_all_4 : decode cX3_all 4 = .ok (.iload_n 2, 1) := by decide +kernel
theorem dX3_all_5 : decode cX3_all 5 = .ok (.bipush 12, 2) := by decide +kernel
theorem dX3_all_7 : decode cX3_all 7 = .ok (.if_icmp .ge 18, 3) := by decide +kernel
theorem dX3_all_10 : decode cX3_all 10 = .ok (.iload_n 1, 1) := by decide +kernel
theorem dX3_all_11 : decode cX3_all 11 = .ok (.aload_n 0, 1) := by decide +kernel
theorem dX3_all_12 : decode cX3_all 12 = .ok (.getfield 18, 3) := by decide +kernel
theorem dX3_all_15 : decode cX3_all 15 = .ok (.iload_n 2, 1) := by decide +kernel
theorem dX3_all_16 : decode cX3_all 16 = .ok (.iaload, 1) := by decide +kernel
theorem dX3_all_17 : decode cX3_all 17 = .ok (.ior, 1) := by decide +kernel
theorem dX3_all_18 : decode cX3_all 18 = .ok (.istore_n 1, 1) := by decide +kernel
theorem dX3_all_19 : decode cX3_all 19 = .ok (.iinc 2 1, 3) := by decide +kernel
theorem dX3_all_22 : decode cX3_all 22 = .ok (.goto (-18), 3) := by decide +kernel
theorem dX3_all_25 : decode cX3_all 25 = .ok (.iload_n 1, 1) := by decide +kernel
theorem dX3_all_26 : decode cX3_all 26 = .ok (.ireturn, 1) := by decide +kernel
theorem dX3_coming_0 : decode cX3_coming 0 = .ok (.iload_n 2, 1) := by decide +kernel
theorem dX3_coming_1 : decode cX3_coming 1 = .ok (.ifCond .ne 9, 3) := by decide +kernel
theorem dX3_coming_4 : decode cX3_coming 4 = .ok (.aload_n 0, 1) := by decide +kernel
theorem dX3_coming_5 : decode cX3_coming 5 = .ok (.iload_n 1, 1) := by decide +kernel
theorem dX3_coming_6 : decode cX3_coming 6 = .ok (.invokevirtual 54, 3) := by decide +kernel
theorem dX3_coming_9 : decode cX3_coming 9 = .ok (.ireturn, 1) := by decide +kernel
theorem dX3_coming_10 : decode cX3_coming 10 = .ok (.iload_n 2, 1) := by decide +kernel
theorem dX3_coming_11 : decode cX3_coming 11 = .ok (.iconst 1, 1) := by decide +kernel
theorem dX3_coming_12 : decode cX3_coming 12 = .ok (.if_icmp .ne 16, 3) := by decide +kernel
theorem dX3_coming_15 : decode cX3_coming 15 = .ok (.aload_n 0, 1) := by decide +kernel
theorem dX3_coming_16 : decode cX3_coming 16 = .ok (.getfield 18, 3) := by decide +kernel
theorem dX3_coming_19 : decode cX3_coming 19 = .ok (.iload_n 1, 1) := by decide +kernel
theorem dX3_coming_20 : decode cX3_coming 20 = .ok (.iaload, 1) := by decide +kernel
theorem dX3_coming_21 : decode cX3_coming 21 = .ok (.iconst 1, 1) := by decide +kernel
theorem dX3_coming_22 : decode cX3_coming 22 = .ok (.iload_n 1, 1) := by decide +kernel
theorem dX3_coming_23 : decode cX3_coming 23 = .ok (.ishl, 1) := by decide +kernel
theorem dX3_coming_24 : decode cX3_coming 24 = .ok (.ior, 1) := by decide +kernel
theorem dX3_coming_25 : decode cX3_coming 25 = .ok (.goto 6, 3) := by decide +kernel
theorem dX3_coming_28 : decode cX3_coming 28 = .ok (.iconst 1, 1) := by decide +kernel
theorem dX3_coming_29 : decode cX3_coming 29 = .ok (.iload_n 1, 1) := by decide +kernel
theorem dX3_coming_30 : decode cX3_coming 30 = .ok (.ishl, 1) := by decide +kernel
theorem dX3_coming_31 : decode cX3_coming 31 = .ok (.ireturn, 1) := by decide +kernel
theorem dX3_heapOf_0 : decode cX3_heapOf 0 = .ok (.iconst 1, 1) := by decide +kernel
theorem dX3_heapOf_1 : decode cX3_heapOf 1 = .ok (.iload_n 1, 1) := by decide +kernel
theorem dX3_heapOf_2 : decode cX3_heapOf 2 = .ok (.ishl, 1) := by decide +kernel
theorem dX3_heapOf_3 : decode cX3_heapOf 3 = .ok (.istore_n 2, 1) := by decide +kernel
theorem dX3_heapOf_4 : decode cX3_heapOf 4 = .ok (.iconst 0, 1) := by decide +kernel
theorem dX3_heapOf_5 : decode cX3_heapOf 5 = .ok (.istore_n 3, 1) := by decide +kernel
theorem dX3_heapOf_6 : decode cX3_heapOf 6 = .ok (.iload_n 3, 1) := by decide +kernel
theorem dX3_heapOf_7 : decode cX3_heapOf 7 = .ok (.bipush 12, 2) := by decide +kernel
theorem dX3_heapOf_9 : decode cX3_heapOf 9 = .ok (.if_icmp .ge 64, 3) := by decide +kernel
theorem dX3_heapOf_12 : decode cX3_heapOf 12 = .ok (.iload_n 2, 1) := by decide +kernel
theorem dX3_heapOf_13 : decode cX3_heapOf 13 = .ok (.istore 4, 2) := by decide +kernel
theorem dX3_heapOf_15 : decode cX3_heapOf 15 = .ok (.iconst 0, 1) := by decide +kernel
theorem dX3_heapOf_16 : decode cX3_heapOf 16 = .ok (.istore 5, 2) := by decide +kernel
theorem dX3_heapOf_18 : decode cX3_heapOf 18 = .ok (.iload 5, 2) := by decide +kernel
theorem dX3_heapOf_20 : decode cX3_heapOf 20 = .ok (.bipush 12, 2) := by decide +kernel
theorem dX3_heapOf_22 : decode cX3_heapOf 22 = .ok (.if_icmp .ge 34, 3) := by decide +kernel
theorem dX3_heapOf_25 : decode cX3_heapOf 25 = .ok (.iload 4, 2) := by decide +kernel
theorem dX3_heapOf_27 : decode cX3_heapOf 27 = .ok (.iload_n 2, 1) := by decide +kernel
theorem dX3_heapOf_28 : decode cX3_heapOf 28 = .ok (.iload 5, 2) := by decide +kernel
theorem dX3_heapOf_30 : decode cX3_heapOf 30 = .ok (.invokestatic 57, 3) := by decide +kernel
theorem dX3_heapOf_33 : decode cX3_heapOf 33 = .ok (.ifCond .eq 13, 3) := by decide +kernel
theorem dX3_heapOf_36 : decode cX3_heapOf 36 = .ok (.aload_n 0, 1) := by decide +kernel
theorem dX3_heapOf_37 : decode cX3_heapOf 37 = .ok (.getfield 18, 3) := by decide +kernel
theorem dX3_heapOf_40 : decode cX3_heapOf 40 = .ok (.iload 5, 2) := by decide +kernel
theorem dX3_heapOf_42 : decode cX3_heapOf 42 = .ok (.iaload, 1) := by decide +kernel
theorem dX3_heapOf_43 : decode cX3_heapOf 43 = .ok (.goto 4, 3) := by decide +kernel
theorem dX3_heapOf_46 : decode cX3_heapOf 46 = .ok (.iconst 0, 1) := by decide +kernel
theorem dX3_heapOf_47 : decode cX3_heapOf 47 = .ok (.ior, 1) := by decide +kernel
theorem dX3_heapOf_48 : decode cX3_heapOf 48 = .ok (.istore 4, 2) := by decide +kernel
theorem dX3_heapOf_50 : decode cX3_heapOf 50 = .ok (.iinc 5 1, 3) := by decide +kernel
theorem dX3_heapOf_53 : decode cX3_heapOf 53 = .ok (.goto (-35), 3) := by decide +kernel
theorem dX3_heapOf_56 : decode cX3_heapOf 56 = .ok (.iload 4, 2) := by decide +kernel
theorem dX3_heapOf_58 : decode cX3_heapOf 58 = .ok (.iload_n 2, 1) := by decide +kernel
theorem dX3_heapOf_59 : decode cX3_heapOf 59 = .ok (.if_icmp .ne 5, 3) := by decide +kernel
theorem dX3_heapOf_62 : decode cX3_heapOf 62 = .ok (.iload_n 2, 1) := by decide +kernel
theorem dX3_heapOf_63 : decode cX3_heapOf 63 = .ok (.ireturn, 1) := by decide +kernel
theorem dX3_heapOf_64 : decode cX3_heapOf 64 = .ok (.iload 4, 2) := by decide +kernel
theorem dX3_heapOf_66 : decode cX3_heapOf 66 = .ok (.istore_n 2, 1) := by decide +kernel
theorem dX3_heapOf_67 : decode cX3_heapOf 67 = .ok (.iinc 3 1, 3) := by decide +kernel
theorem dX3_heapOf_70 : decode cX3_heapOf 70 = .ok (.goto (-64), 3) := by decide +kernel
theorem dX3_heapOf_73 : decode cX3_heapOf 73 = .ok (.iload_n 2, 1) := by decide +kernel
theorem dX3_heapOf_74 : decode cX3_heapOf 74 = .ok (.ireturn, 1) := by decide +kernel
theorem dX3_leastCover_0 : decode cX3_leastCover 0 = .ok (.iconst (-1), 1) := by decide +kernel
theorem dX3_leastCover_1 : decode cX3_leastCover 1 = .ok (.istore_n 1, 1) := by decide +kernel
theorem dX3_leastCover_2 : decode cX3_leastCover 2 = .ok (.aload_n 0, 1) := by decide +kernel
theorem dX3_leastCover_3 : decode cX3_leastCover 3 = .ok (.getfield 18, 3) := by decide +kernel
theorem dX3_leastCover_6 : decode cX3_leastCover 6 = .ok (.bipush 11, 2) := by decide +kernel
theorem dX3_leastCover_8 : decode cX3_leastCover 8 = .ok (.iconst 0, 1) := by decide +kernel
theorem dX3_leastCover_9 : decode cX3_leastCover 9 = .ok (.iload_n 1, 1) := by decide +kernel
theorem dX3_leastCover_10 : decode cX3_leastCover 10 = .ok (.invokestatic 61, 3) := by decide +kernel
theorem dX3_leastCover_13 : decode cX3_leastCover 13 = .ok (.ireturn, 1) := by decide +kernel
theorem dX3_leastCover__0 : decode cX3_leastCover_ 0 = .ok (.iload_n 2, 1) := by decide +kernel
theorem dX3_leastCover__1 : decode cX3_leastCover_ 1 = .ok (.invokestatic 48, 3) := by decide +kernel
theorem dX3_leastCover__4 : decode cX3_leastCover_ 4 = .ok (.iload_n 3, 1) := by decide +kernel
theorem dX3_leastCover__5 : decode cX3_leastCover_ 5 = .ok (.invokestatic 48, 3) := by decide +kernel
theorem dX3_leastCover__8 : decode cX3_leastCover_ 8 = .ok (.if_icmp .lt 5, 3) := by decide +kernel
theorem dX3_leastCover__11 : decode cX3_leastCover_ 11 = .ok (.iload_n 3, 1) := by decide +kernel
theorem dX3_leastCover__12 : decode cX3_leastCover_ 12 = .ok (.ireturn, 1) := by decide +kernel
theorem dX3_leastCover__13 : decode cX3_leastCover_ 13 = .ok (.iload_n 1, 1) := by decide +kernel
theorem dX3_leastCover__14 : decode cX3_leastCover_ 14 = .ok (.ifCond .lt 9, 3) := by decide +kernel
theorem dX3_leastCover__17 : decode cX3_leastCover_ 17 = .ok (.iload_n 1, 1) := by decide +kernel
theorem dX3_leastCover__18 : decode cX3_leastCover_ 18 = .ok (.aload_n 0, 1) := by decide +kernel
theorem dX3_leastCover__19 : decode cX3_leastCover_ 19 = .ok (.arraylength, 1) := by decide +kernel
theorem dX3_leastCover__20 : decode cX3_leastCover_ 20 = .ok (.if_icmp .lt 5, 3) := by decide +kernel
theorem dX3_leastCover__23 : decode cX3_leastCover_ 23 = .ok (.iload_n 2, 1) := by decide +kernel
theorem dX3_leastCover__24 : decode cX3_leastCover_ 24 = .ok (.ireturn, 1) := by decide +kernel
theorem dX3_leastCover__25 : decode cX3_leastCover_ 25 = .ok (.iload_n 2, 1) := by decide +kernel
theorem dX3_leastCover__26 : decode cX3_leastCover_ 26 = .ok (.iload_n 1, 1) := by decide +kernel
theorem dX3_leastCover__27 : decode cX3_leastCover_ 27 = .ok (.invokestatic 57, 3) := by decide +kernel
theorem dX3_leastCover__30 : decode cX3_leastCover_ 30 = .ok (.ifCond .eq 13, 3) := by decide +kernel
theorem dX3_leastCover__33 : decode cX3_leastCover_ 33 = .ok (.aload_n 0, 1) := by decide +kernel
theorem dX3_leastCover__34 : decode cX3_leastCover_ 34 = .ok (.iload_n 1, 1) := by decide +kernel
theorem dX3_leastCover__35 : decode cX3_leastCover_ 35 = .ok (.iconst 1, 1) := by decide +kernel
theorem dX3_leastCover__36 : decode cX3_leastCover_ 36 = .ok (.isub, 1) := by decide +kernel
theorem dX3_leastCover__37 : decode cX3_leastCover_ 37 = .ok (.iload_n 2, 1) := by decide +kernel
theorem dX3_leastCover__38 : decode cX3_leastCover_ 38 = .ok (.iload_n 3, 1) := by decide +kernel
theorem dX3_leastCover__39 : decode cX3_leastCover_ 39 = .ok (.invokestatic 61, 3) := by decide +kernel
theorem dX3_leastCover__42 : decode cX3_leastCover_ 42 = .ok (.ireturn, 1) := by decide +kernel
theorem dX3_leastCover__43 : decode cX3_leastCover_ 43 = .ok (.aload_n 0, 1) := by decide +kernel
theorem dX3_leastCover__44 : decode cX3_leastCover_ 44 = .ok (.iload_n 1, 1) := by decide +kernel
theorem dX3_leastCover__45 : decode cX3_leastCover_ 45 = .ok (.iaload, 1) := by decide +kernel
theorem dX3_leastCover__46 : decode cX3_leastCover_ 46 = .ok (.iload_n 2, 1) := by decide +kernel
theorem dX3_leastCover__47 : decode cX3_leastCover_ 47 = .ok (.iconst (-1), 1) := by decide +kernel
theorem dX3_leastCover__48 : decode cX3_leastCover_ 48 = .ok (.ixor, 1) := by decide +kernel
theorem dX3_leastCover__49 : decode cX3_leastCover_ 49 = .ok (.iand, 1) := by decide +kernel
theorem dX3_leastCover__50 : decode cX3_leastCover_ 50 = .ok (.istore 4, 2) := by decide +kernel
theorem dX3_leastCover__52 : decode cX3_leastCover_ 52 = .ok (.aload_n 0, 1) := by decide +kernel
theorem dX3_leastCover__53 : decode cX3_leastCover_ 53 = .ok (.iload_n 1, 1) := by decide +kernel
theorem dX3_leastCover__54 : decode cX3_leastCover_ 54 = .ok (.iconst 1, 1) := by decide +kernel
theorem dX3_leastCover__55 : decode cX3_leastCover_ 55 = .ok (.isub, 1) := by decide +kernel
theorem dX3_leastCover__56 : decode cX3_leastCover_ 56 = .ok (.iload_n 2, 1) := by decide +kernel
theorem dX3_leastCover__57 : decode cX3_leastCover_ 57 = .ok (.iload 4, 2) := by decide +kernel
theorem dX3_leastCover__59 : decode cX3_leastCover_ 59 = .ok (.ior, 1) := by decide +kernel
theorem dX3_leastCover__60 : decode cX3_leastCover_ 60 = .ok (.iload_n 3, 1) := by decide +kernel
theorem dX3_leastCover__61 : decode cX3_leastCover_ 61 = .ok (.invokestatic 61, 3) := by decide +kernel
theorem dX3_leastCover__64 : decode cX3_leastCover_ 64 = .ok (.istore 5, 2) := by decide +kernel
theorem dX3_leastCover__66 : decode cX3_leastCover_ 66 = .ok (.iload 4, 2) := by decide +kernel
theorem dX3_leastCover__68 : decode cX3_leastCover_ 68 = .ok (.ifCond .ne 8, 3) := by decide +kernel
theorem dX3_leastCover__71 : decode cX3_leastCover_ 71 = .ok (.iload 5, 2) := by decide +kernel
theorem dX3_leastCover__73 : decode cX3_leastCover_ 73 = .ok (.goto 17, 3) := by decide +kernel
theorem dX3_leastCover__76 : decode cX3_leastCover_ 76 = .ok (.aload_n 0, 1) := by decide +kernel
theorem dX3_leastCover__77 : decode cX3_leastCover_ 77 = .ok (.iload_n 1, 1) := by decide +kernel
theorem dX3_leastCover__78 : decode cX3_leastCover_ 78 = .ok (.iconst 1, 1) := by decide +kernel
theorem dX3_leastCover__79 : decode cX3_leastCover_ 79 = .ok (.isub, 1) := by decide +kernel
theorem dX3_leastCover__80 : decode cX3_leastCover_ 80 = .ok (.iload_n 2, 1) := by decide +kernel
theorem dX3_leastCover__81 : decode cX3_leastCover_ 81 = .ok (.iconst 1, 1) := by decide +kernel
theorem dX3_leastCover__82 : decode cX3_leastCover_ 82 = .ok (.iload_n 1, 1) := by decide +kernel
theorem dX3_leastCover__83 : decode cX3_leastCover_ 83 = .ok (.ishl, 1) := by decide +kernel
theorem dX3_leastCover__84 : decode cX3_leastCover_ 84 = .ok (.ior, 1) := by decide +kernel
theorem dX3_leastCover__85 : decode cX3_leastCover_ 85 = .ok (.iload 5, 2) := by decide +kernel
theorem dX3_leastCover__87 : decode cX3_leastCover_ 87 = .ok (.invokestatic 61, 3) := by decide +kernel
theorem dX3_leastCover__90 : decode cX3_leastCover_ 90 = .ok (.ireturn, 1) := by decide +kernel
theorem dX4_init_0 : decode cX4_init 0 = .ok (.aload_n 0, 1) := by decide +kernel
theorem dX4_init_1 : decode cX4_init 1 = .ok (.invokespecial 3, 3) := by decide +kernel
theorem dX4_init_4 : decode cX4_init 4 = .ok (.aload_n 0, 1) := by decide +kernel
theorem dX4_init_5 : decode cX4_init 5 = .ok (.bipush 120, 2) := by decide +kernel
theorem dX4_init_7 : decode cX4_init 7 = .ok (.newarray .byte, 2) := by decide +kernel
theorem dX4_init_9 : decode cX4_init 9 = .ok (.putfield 9, 3) := by decide +kernel
theorem dX4_init_12 : decode cX4_init 12 = .ok (.return_, 1) := by decide +kernel
theorem dX4_add_0 : decode cX4_add 0 = .ok (.aload_n 0, 1) := by decide +kernel
theorem dX4_add_1 : decode cX4_add 1 = .ok (.getfield 15, 3) := by decide +kernel
theorem dX4_add_4 : decode cX4_add 4 = .ok (.bipush 120, 2) := by decide +kernel
theorem dX4_add_6 : decode cX4_add 6 = .ok (.if_icmp .ge 23, 3) := by decide +kernel
theorem dX4_add_9 : decode cX4_add 9 = .ok (.aload_n 0, 1) := by decide +kernel
theorem dX4_add_10 : decode cX4_add 10 = .ok (.getfield 9, 3) := by decide +kernel
theorem dX4_add_13 : decode cX4_add 13 = .ok (.aload_n 0, 1) := by decide +kernel
theorem dX4_add_14 : decode cX4_add 14 = .ok (.getfield 15, 3) := by decide +kernel
theorem dX4_add_17 : decode cX4_add 17 = .ok (.iload_n 1, 1) := by decide +kernel
theorem dX4_add_18 : decode cX4_add 18 = .ok (.bastore, 1) := by decide +kernel
theorem dX4_add_19 : decode cX4_add 19 = .ok (.aload_n 0, 1) := by decide +kernel
theorem dX4_add_20 : decode cX4_add 20 = .ok (.dup, 1) := by decide +kernel
theorem dX4_add_21 : decode cX4_add 21 = .ok (.getfield 15, 3) := by decide +kernel
theorem dX4_add_24 : decode cX4_add 24 = .ok (.iconst 1, 1) := by decide +kernel
theorem dX4_add_25 : decode cX4_add 25 = .ok (.iadd, 1) := by decide +kernel
theorem dX4_add_26 : decode cX4_add 26 = .ok (.putfield 15, 3) := by decide +kernel
theorem dX4_add_29 : decode cX4_add 29 = .ok (.return_, 1) := by decide +kernel
theorem dX5_init_0 : decode cX5_init 0 = .ok (.aload_n 0, 1) := by decide +kernel
theorem dX5_init_1 : decode cX5_init 1 = .ok (.invokespecial 1, 3) := by decide +kernel
theorem dX5_init_4 : decode cX5_init 4 = .ok (.aload_n 0, 1) := by decide +kernel
theorem dX5_init_5 : decode cX5_init 5 = .ok (.new 7, 3) := by decide +kernel
theorem dX5_init_8 : decode cX5_init 8 = .ok (.dup, 1) := by decide +kernel
theorem dX5_init_9 : decode cX5_init 9 = .ok (.invokespecial 9, 3) := by decide +kernel
theorem dX5_init_12 : decode cX5_init 12 = .ok (.putfield 10, 3) := by decide +kernel
theorem dX5_init_15 : decode cX5_init 15 = .ok (.aload_n 0, 1) := by decide +kernel
theorem dX5_init_16 : decode cX5_init 16 = .ok (.new 7, 3) := by decide +kernel
theorem dX5_init_19 : decode cX5_init 19 = .ok (.dup, 1) := by decide +kernel
theorem dX5_init_20 : decode cX5_init 20 = .ok (.invokespecial 9, 3) := by decide +kernel
theorem dX5_init_23 : decode cX5_init 23 = .ok (.putfield 16, 3) := by decide +kernel
theorem dX5_init_26 : decode cX5_init 26 = .ok (.aload_n 0, 1) := by decide +kernel
theorem dX5_init_27 : decode cX5_init 27 = .ok (.new 7, 3) := by decide +kernel
theorem dX5_init_30 : decode cX5_init 30 = .ok (.dup, 1) := by decide +kernel
theorem dX5_init_31 : decode cX5_init 31 = .ok (.invokespecial 9, 3) := by decide +kernel
theorem dX5_init_34 : decode cX5_init 34 = .ok (.putfield 19, 3) := by decide +kernel
theorem dX5_init_37 : decode cX5_init 37 = .ok (.aload_n 0, 1) := by decide +kernel
theorem dX5_init_38 : decode cX5_init 38 = .ok (.new 22, 3) := by decide +kernel
theorem dX5_init_41 : decode cX5_init 41 = .ok (.dup, 1) := by decide +kernel
theorem dX5_init_42 : decode cX5_init 42 = .ok (.invokespecial 24, 3) := by decide +kernel
theorem dX5_init_45 : decode cX5_init 45 = .ok (.putfield 25, 3) := by decide +kernel
theorem dX5_init_48 : decode cX5_init 48 = .ok (.aload_n 0, 1) := by decide +kernel
theorem dX5_init_49 : decode cX5_init 49 = .ok (.new 29, 3) := by decide +kernel
theorem dX5_init_52 : decode cX5_init 52 = .ok (.dup, 1) := by decide +kernel
theorem dX5_init_53 : decode cX5_init 53 = .ok (.invokespecial 31, 3) := by decide +kernel
theorem dX5_init_56 : decode cX5_init 56 = .ok (.putfield 32, 3) := by decide +kernel
theorem dX5_init_59 : decode cX5_init 59 = .ok (.aload_n 0, 1) := by decide +kernel
theorem dX5_init_60 : decode cX5_init 60 = .ok (.new 36, 3) := by decide +kernel
theorem dX5_init_63 : decode cX5_init 63 = .ok (.dup, 1) := by decide +kernel
theorem dX5_init_64 : decode cX5_init 64 = .ok (.aload_n 0, 1) := by decide +kernel
theorem dX5_init_65 : decode cX5_init 65 = .ok (.getfield 32, 3) := by decide +kernel
theorem dX5_init_68 : decode cX5_init 68 = .ok (.invokespecial 38, 3) := by decide +kernel
theorem dX5_init_71 : decode cX5_init 71 = .ok (.putfield 41, 3) := by decide +kernel
theorem dX5_init_74 : decode cX5_init 74 = .ok (.aload_n 0, 1) := by decide +kernel
theorem dX5_init_75 : decode cX5_init 75 = .ok (.iconst 4, 1) := by decide +kernel
theorem dX5_init_76 : decode cX5_init 76 = .ok (.anewarray 45, 3) := by decide +kernel
theorem dX5_init_79 : decode cX5_init 79 = .ok (.putfield 47, 3) := by decide +kernel
theorem dX5_init_82 : decode cX5_init 82 = .ok (.aload_n 0, 1) := by decide +kernel
theorem dX5_init_83 : decode cX5_init 83 = .ok (.bipush 7, 2) := by decide +kernel
theorem dX5_init_85 : decode cX5_init 85 = .ok (.newarray .int, 2) := by decide +kernel
theorem dX5_init_87 : decode cX5_init 87 = .ok (.putfield 51, 3) := by decide +kernel
theorem dX5_init_90 : decode cX5_init 90 = .ok (.iconst 0, 1) := by decide +kernel
theorem dX5_init_91 : decode cX5_init 91 = .ok (.istore_n 1, 1) := by decide +kernel
theorem dX5_init_92 : decode cX5_init 92 = .ok (.iload_n 1, 1) := by decide +kernel
theorem dX5_init_93 : decode cX5_init 93 = .ok (.iconst 4, 1) := by decide +kernel
theorem dX5_init_94 : decode cX5_init 94 = .ok (.if_icmp .ge 22, 3) := by decide +kernel
theorem dX5_init_97 : decode cX5_init 97 = .ok (.aload_n 0, 1) := by decide +kernel
theorem dX5_init_98 : decode cX5_init 98 = .ok (.getfield 47, 3) := by decide +kernel
theorem dX5_init_101 : decode cX5_init 101 = .ok (.iload_n 1, 1) := by decide +kernel
theorem dX5_init_102 : decode cX5_init 102 = .ok (.new 45, 3) := by decide +kernel
theorem dX5_init_105 : decode cX5_init 105 = .ok (.dup, 1) := by decide +kernel
theorem dX5_init_106 : decode cX5_init 106 = .ok (.invokespecial 55, 3) := by decide +kernel
theorem dX5_init_109 : decode cX5_init 109 = .ok (.aastore, 1) := by decide +kernel
theorem dX5_init_110 : decode cX5_init 110 = .ok (.iinc 1 1, 3) := by decide +kernel
theorem dX5_init_113 : decode cX5_init 113 = .ok (.goto (-21), 3) := by decide +kernel
theorem dX5_init_116 : decode cX5_init 116 = .ok (.return_, 1) := by decide +kernel
theorem dX5_hanger_0 : decode cX5_hanger 0 = .ok (.iload_n 1, 1) := by decide +kernel
theorem dX5_hanger_1 : decode cX5_hanger 1 = .ok (.invokestatic 56, 3) := by decide +kernel
theorem dX5_hanger_4 : decode cX5_hanger 4 = .ok (.ifCond .ne 10, 3) := by decide +kernel
theorem dX5_hanger_7 : decode cX5_hanger 7 = .ok (.aload_n 0, 1) := by decide +kernel
theorem dX5_hanger_8 : decode cX5_hanger 8 = .ok (.ldc 60, 2) := by decide +kernel
theorem dX5_hanger_10 : decode cX5_hanger 10 = .ok (.invokevirtual 61, 3) := by decide +kernel
theorem dX5_hanger_13 : decode cX5_hanger 13 = .ok (.ireturn, 1) := by decide +kernel
theorem dX5_hanger_14 : decode cX5_hanger 14 = .ok (.aload_n 0, 1) := by decide +kernel
theorem dX5_hanger_15 : decode cX5_hanger 15 = .ok (.getfield 10, 3) := by decide +kernel
theorem dX5_hanger_18 : decode cX5_hanger 18 = .ok (.getfield 65, 3) := by decide +kernel
theorem dX5_hanger_21 : decode cX5_hanger 21 = .ok (.bipush 12, 2) := by decide +kernel
theorem dX5_hanger_23 : decode cX5_hanger 23 = .ok (.if_icmp .lt 10, 3) := by decide +kernel
theorem dX5_hanger_26 : decode cX5_hanger 26 = .ok (.aload_n 0, 1) := by decide +kernel
theorem dX5_hanger_27 : decode cX5_hanger 27 = .ok (.ldc 69, 2) := by decide +kernel
theorem dX5_hanger_29 : decode cX5_hanger 29 = .ok (.invokevirtual 61, 3) := by decide +kernel
theorem dX5_hanger_32 : decode cX5_hanger 32 = .ok (.ireturn, 1) := by decide +kernel
theorem dX5_hanger_33 : decode cX5_hanger 33 = .ok (.aload_n 0, 1) := by decide +kernel
theorem dX5_hanger_34 : decode cX5_hanger 34 = .ok (.getfield 10, 3) := by decide +kernel
theorem dX5_hanger_37 : decode cX5_hanger 37 = .ok (.iload_n 1, 1) := by decide +kernel
theorem dX5_hanger_38 : decode cX5_hanger 38 = .ok (.invokevirtual 70, 3) := by decide +kernel
theorem dX5_hanger_41 : decode cX5_hanger 41 = .ok (.ireturn, 1) := by decide +kernel
theorem dX5_of_0 : decode cX5_of 0 = .ok (.aload_n 0, 1) := by decide +kernel
theorem dX5_of_1 : decode cX5_of 1 = .ok (.getfield 10, 3) := by decide +kernel
theorem dX5_of_4 : decode cX5_of 4 = .ok (.iload_n 1, 1) := by decide +kernel
theorem dX5_of_5 : decode cX5_of 5 = .ok (.invokevirtual 73, 3) := by decide +kernel
theorem dX5_of_8 : decode cX5_of 8 = .ok (.ifCond .ne 10, 3) := by decide +kernel
theorem dX5_of_11 : decode cX5_of 11 = .ok (.aload_n 0, 1) := by decide +kernel
theorem dX5_of_12 : decode cX5_of 12 = .ok (.ldc 60, 2) := by decide +kernel
theorem dX5_of_14 : decode cX5_of 14 = .ok (.invokevirtual 61, 3) := by decide +kernel
theorem dX5_of_17 : decode cX5_of 17 = .ok (.ireturn, 1) := by decide +kernel
theorem dX5_of_18 : decode cX5_of 18 = .ok (.iload_n 2, 1) := by decide +kernel
theorem dX5_of_19 : decode cX5_of 19 = .ok (.tableswitch 116 0 6 #[41, 51, 61, 70, 80, 90, 103], 41) := by decide +kernel
theorem dX5_of_60 : decode cX5_of 60 = .ok (.aload_n 0, 1) := by decide +kernel
theorem dX5_of_61 : decode cX5_of 61 = .ok (.getfield 10, 3) := by decide +kernel
theorem dX5_of_64 : decode cX5_of 64 = .ok (.getfield 76, 3) := by decide +kernel
theorem dX5_of_67 : decode cX5_of 67 = .ok (.iload_n 1, 1) := by decide +kernel
theorem dX5_of_68 : decode cX5_of 68 = .ok (.iaload, 1) := by decide +kernel
theorem dX5_of_69 : decode cX5_of 69 = .ok (.ireturn, 1) := by decide +kernel
theorem dX5_of_70 : decode cX5_of 70 = .ok (.aload_n 0, 1) := by decide +kernel
theorem dX5_of_71 : decode cX5_of 71 = .ok (.getfield 10, 3) := by decide +kernel
theorem dX5_of_74 : decode cX5_of 74 = .ok (.getfield 79, 3) := by decide +kernel
theorem dX5_of_77 : decode cX5_of 77 = .ok (.iload_n 1, 1) := by decide +kernel
theorem dX5_of_78 : decode cX5_of 78 = .ok (.iaload, 1) := by decide +kernel
theorem dX5_of_79 : decode cX5_of 79 = .ok (.ireturn, 1) := by decide +kernel
theorem dX5_of_80 : decode cX5_of 80 = .ok (.aload_n 0, 1) := by decide +kernel
theorem dX5_of_81 : decode cX5_of 81 = .ok (.getfield 10, 3) := by decide +kernel
theorem dX5_of_84 : decode cX5_of 84 = .ok (.iload_n 1, 1) := by decide +kernel
theorem dX5_of_85 : decode cX5_of 85 = .ok (.invokevirtual 82, 3) := by decide +kernel
theorem dX5_of_88 : decode cX5_of 88 = .ok (.ireturn, 1) := by decide +kernel
theorem dX5_of_89 : decode cX5_of 89 = .ok (.aload_n 0, 1) := by decide +kernel
theorem dX5_of_90 : decode cX5_of 90 = .ok (.getfield 10, 3) := by decide +kernel
theorem dX5_of_93 : decode cX5_of 93 = .ok (.getfield 85, 3) := by decide +kernel
theorem dX5_of_96 : decode cX5_of 96 = .ok (.iload_n 1, 1) := by decide +kernel
theorem dX5_of_97 : decode cX5_of 97 = .ok (.iaload, 1) := by decide +kernel
theorem dX5_of_98 : decode cX5_of 98 = .ok (.ireturn, 1) := by decide +kernel
theorem dX5_of_99 : decode cX5_of 99 = .ok (.aload_n 0, 1) := by decide +kernel
theorem dX5_of_100 : decode cX5_of 100 = .ok (.getfield 10, 3) := by decide +kernel
theorem dX5_of_103 : decode cX5_of 103 = .ok (.getfield 88, 3) := by decide +kernel
theorem dX5_of_106 : decode cX5_of 106 = .ok (.iload_n 1, 1) := by decide +kernel
theorem dX5_of_107 : decode cX5_of 107 = .ok (.iaload, 1) := by decide +kernel
theorem dX5_of_108 : decode cX5_of 108 = .ok (.ireturn, 1) := by decide +kernel
theorem dX5_of_109 : decode cX5_of 109 = .ok (.aload_n 0, 1) := by decide +kernel
theorem dX5_of_110 : decode cX5_of 110 = .ok (.getfield 10, 3) := by decide +kernel
theorem dX5_of_113 : decode cX5_of 113 = .ok (.getfield 76, 3) := by decide +kernel
theorem dX5_of_116 : decode cX5_of 116 = .ok (.iload_n 1, 1) := by decide +kernel
theorem dX5_of_117 : decode cX5_of 117 = .ok (.iaload, 1) := by decide +kernel
theorem dX5_of_118 : decode cX5_of 118 = .ok (.invokestatic 91, 3) := by decide +kernel
theorem dX5_of_121 : decode cX5_of 121 = .ok (.ireturn, 1) := by decide +kernel
theorem dX5_of_122 : decode cX5_of 122 = .ok (.aload_n 0, 1) := by decide +kernel
theorem dX5_of_123 : decode cX5_of 123 = .ok (.getfield 10, 3) := by decide +kernel
theorem dX5_of_126 : decode cX5_of 126 = .ok (.getfield 76, 3) := by decide +kernel
theorem dX5_of_129 : decode cX5_of 129 = .ok (.iload_n 1, 1) := by decide +kernel
theorem dX5_of_130 : decode cX5_of 130 = .ok (.iaload, 1) := by decide +kernel
theorem dX5_of_131 : decode cX5_of 131 = .ok (.invokestatic 94, 3) := by decide +kernel
theorem dX5_of_134 : decode cX5_of 134 = .ok (.ireturn, 1) := by decide +kernel
theorem dX5_of_135 : decode cX5_of 135 = .ok (.aload_n 0, 1) := by decide +kernel
theorem dX5_of_136 : decode cX5_of 136 = .ok (.ldc 60, 2) := by decide +kernel
theorem dX5_of_138 : decode cX5_of 138 = .ok (.invokevirtual 61, 3) := by decide +kernel
theorem dX5_of_141 : decode cX5_of 141 = .ok (.ireturn, 1) := by decide +kernel
theorem dX5_set_0 : decode cX5_set 0 = .ok (.aload_n 0, 1) := by decide +kernel
theorem dX5_set_1 : decode cX5_set 1 = .ok (.getfield 10, 3) := by decide +kernel
theorem dX5_set_4 : decode cX5_set 4 = .ok (.iload_n 1, 1) := by decide +kernel
theorem dX5_set_5 : decode cX5_set 5 = .ok (.invokevirtual 73, 3) := by decide +kernel
theorem dX5_set_8 : decode cX5_set 8 = .ok (.ifCond .eq 7, 3) := by decide +kernel
theorem dX5_set_11 : decode cX5_set 11 = .ok (.iload_n 3, 1) := by decide +kernel
theorem dX5_set_12 : decode cX5_set 12 = .ok (.ifCond .ge 10, 3) := by decide +kernel
theorem dX5_set_15 : decode cX5_set 15 = .ok (.aload_n 0, 1) := by decide +kernel
theorem dX5_set_16 : decode cX5_set 16 = .ok (.ldc 60, 2) := by decide +kernel
theorem dX5_set_18 : decode cX5_set 18 = .ok (.invokevirtual 61, 3) := by decide +kernel
theorem dX5_set_21 : decode cX5_set 21 = .ok (.ireturn, 1) := by decide +kernel
theorem dX5_set_22 : decode cX5_set 22 = .ok (.iload_n 2, 1) := by decide +kernel
theorem dX5_set_23 : decode cX5_set 23 = .ok (.iconst 3, 1) := by decide +kernel
theorem dX5_set_24 : decode cX5_set 24 = .ok (.if_icmp .ne 33, 3) := by decide +kernel
theorem dX5_set_27 : decode cX5_set 27 = .ok (.iload_n 3, 1) := by decide +kernel
theorem dX5_set_28 : decode cX5_set 28 = .ok (.bipush 9, 2) := by decide +kernel
theorem dX5_set_30 : decode cX5_set 30 = .ok (.if_icmp .gt 27, 3) := by decide +kernel
theorem dX5_set_33 : decode cX5_set 33 = .ok (.aload_n 0, 1) := by decide +kernel
theorem dX5_set_34 : decode cX5_set 34 = .ok (.getfield 10, 3) := by decide +kernel
theorem dX5_set_37 : decode cX5_set 37 = .ok (.getfield 85, 3) := by decide +kernel
theorem dX5_set_40 : decode cX5_set 40 = .ok (.iload_n 1, 1) := by decide +kernel
theorem dX5_set_41 : decode cX5_set 41 = .ok (.iaload, 1) := by decide +kernel
theorem dX5_set_42 : decode cX5_set 42 = .ok (.istore 4, 2) := by decide +kernel
theorem dX5_set_44 : decode cX5_set 44 = .ok (.aload_n 0, 1) := by decide +kernel
theorem dX5_set_45 : decode cX5_set 45 = .ok (.getfield 10, 3) := by decide +kernel
theorem dX5_set_48 : decode cX5_set 48 = .ok (.getfield 85, 3) := by decide +kernel
theorem dX5_set_51 : decode cX5_set 51 = .ok (.iload_n 1, 1) := by decide +kernel
theorem dX5_set_52 : decode cX5_set 52 = .ok (.iload_n 3, 1) := by decide +kernel
theorem dX5_set_53 : decode cX5_set 53 = .ok (.iastore, 1) := by decide +kernel
theorem dX5_set_54 : decode cX5_set 54 = .ok (.iload 4, 2) := by decide +kernel
theorem dX5_set_56 : decode cX5_set 56 = .ok (.ireturn, 1) := by decide +kernel
theorem dX5_set_57 : decode cX5_set 57 = .ok (.iload_n 2, 1) := by decide +kernel
theorem dX5_set_58 : decode cX5_set 58 = .ok (.iconst 4, 1) := by decide +kernel
theorem dX5_set_59 : decode cX5_set 59 = .ok (.if_icmp .ne 33, 3) := by decide +kernel
theorem dX5_set_62 : decode cX5_set 62 = .ok (.iload_n 3, 1) := by decide +kernel
theorem dX5_set_63 : decode cX5_set 63 = .ok (.bipush 15, 2) := by decide +kernel
theorem dX5_set_65 : decode cX5_set 65 = .ok (.if_icmp .gt 27, 3) := by decide +kernel
theorem dX5_set_68 : decode cX5_set 68 = .ok (.aload_n 0, 1) := by decide +kernel
theorem dX5_set_69 : decode cX5_set 69 = .ok (.getfield 10, 3) := by decide +kernel
theorem dX5_set_72 : decode cX5_set 72 = .ok (.getfield 88, 3) := by decide +kernel
theorem dX5_set_75 : decode cX5_set 75 = .ok (.iload_n 1, 1) := by decide +kernel
theorem dX5_set_76 : decode cX5_set 76 = .ok (.iaload, 1) := by decide +kernel
theorem dX5_set_77 : decode cX5_set 77 = .ok (.istore 4, 2) := by decide +kernel
theorem dX5_set_79 : decode cX5_set 79 = .ok (.aload_n 0, 1) := by decide +kernel
theorem dX5_set_80 : decode cX5_set 80 = .ok (.getfield 10, 3) := by decide +kernel
theorem dX5_set_83 : decode cX5_set 83 = .ok (.getfield 88, 3) := by decide +kernel
theorem dX5_set_86 : decode cX5_set 86 = .ok (.iload_n 1, 1) := by decide +kernel
theorem dX5_set_87 : decode cX5_set 87 = .ok (.iload_n 3, 1) := by decide +kernel
theorem dX5_set_88 : decode cX5_set 88 = .ok (.iastore, 1) := by decide +kernel
theorem dX5_set_89 : decode cX5_set 89 = .ok (.iload 4, 2) := by decide +kernel
theorem dX5_set_91 : decode cX5_set 91 = .ok (.ireturn, 1) := by decide +kernel
theorem dX5_set_92 : decode cX5_set 92 = .ok (.aload_n 0, 1) := by decide +kernel
theorem dX5_set_93 : decode cX5_set 93 = .ok (.ldc 60, 2) := by decide +kernel
theorem dX5_set_95 : decode cX5_set 95 = .ok (.invokevirtual 61, 3) := by decide +kernel
theorem dX5_set_98 : decode cX5_set 98 = .ok (.ireturn, 1) := by decide +kernel
theorem dX5_turn_0 : decode cX5_turn 0 = .ok (.aload_n 0, 1) := by decide +kernel
theorem dX5_turn_1 : decode cX5_turn 1 = .ok (.getfield 10, 3) := by decide +kernel
theorem dX5_turn_4 : decode cX5_turn 4 = .ok (.iload_n 1, 1) := by decide +kernel
theorem dX5_turn_5 : decode cX5_turn 5 = .ok (.invokevirtual 73, 3) := by decide +kernel
theorem dX5_turn_8 : decode cX5_turn 8 = .ok (.ifCond .eq 10, 3) := by decide +kernel
theorem dX5_turn_11 : decode cX5_turn 11 = .ok (.iload_n 2, 1) := by decide +kernel
theorem dX5_turn_12 : decode cX5_turn 12 = .ok (.invokestatic 56, 3) := by decide +kernel
theorem dX5_turn_15 : decode cX5_turn 15 = .ok (.ifCond .ne 10, 3) := by decide +kernel
theorem dX5_turn_18 : decode cX5_turn 18 = .ok (.aload_n 0, 1) := by decide +kernel
theorem dX5_turn_19 : decode cX5_turn 19 = .ok (.ldc 60, 2) := by decide +kernel
theorem dX5_turn_21 : decode cX5_turn 21 = .ok (.invokevirtual 61, 3) := by decide +kernel
theorem dX5_turn_24 : decode cX5_turn 24 = .ok (.ireturn, 1) := by decide +kernel
theorem dX5_turn_25 : decode cX5_turn 25 = .ok (.aload_n 0, 1) := by decide +kernel
theorem dX5_turn_26 : decode cX5_turn 26 = .ok (.getfield 10, 3) := by decide +kernel
theorem dX5_turn_29 : decode cX5_turn 29 = .ok (.getfield 76, 3) := by decide +kernel
theorem dX5_turn_32 : decode cX5_turn 32 = .ok (.iload_n 1, 1) := by decide +kernel
theorem dX5_turn_33 : decode cX5_turn 33 = .ok (.iaload, 1) := by decide +kernel
theorem dX5_turn_34 : decode cX5_turn 34 = .ok (.istore_n 3, 1) := by decide +kernel
theorem dX5_turn_35 : decode cX5_turn 35 = .ok (.aload_n 0, 1) := by decide +kernel
theorem dX5_turn_36 : decode cX5_turn 36 = .ok (.getfield 10, 3) := by decide +kernel
theorem dX5_turn_39 : decode cX5_turn 39 = .ok (.getfield 76, 3) := by decide +kernel
theorem dX5_turn_42 : decode cX5_turn 42 = .ok (.iload_n 1, 1) := by decide +kernel
theorem dX5_turn_43 : decode cX5_turn 43 = .ok (.iload_n 2, 1) := by decide +kernel
theorem dX5_turn_44 : decode cX5_turn 44 = .ok (.iastore, 1) := by decide +kernel
theorem dX5_turn_45 : decode cX5_turn 45 = .ok (.iload_n 3, 1) := by decide +kernel
theorem dX5_turn_46 : decode cX5_turn 46 = .ok (.ireturn, 1) := by decide +kernel
theorem dX5_as_0 : decode cX5_as 0 = .ok (.aload_n 0, 1) := by decide +kernel
theorem dX5_as_1 : decode cX5_as 1 = .ok (.getfield 10, 3) := by decide +kernel
theorem dX5_as_4 : decode cX5_as 4 = .ok (.iload_n 1, 1) := by decide +kernel
theorem dX5_as_5 : decode cX5_as 5 = .ok (.invokevirtual 73, 3) := by decide +kernel
theorem dX5_as_8 : decode cX5_as 8 = .ok (.ifCond .eq 10, 3) := by decide +kernel
theorem dX5_as_11 : decode cX5_as 11 = .ok (.iload_n 2, 1) := by decide +kernel
theorem dX5_as_12 : decode cX5_as 12 = .ok (.invokestatic 56, 3) := by decide +kernel
theorem dX5_as_15 : decode cX5_as 15 = .ok (.ifCond .ne 10, 3) := by decide +kernel
theorem dX5_as_18 : decode cX5_as 18 = .ok (.aload_n 0, 1) := by decide +kernel
theorem dX5_as_19 : decode cX5_as 19 = .ok (.ldc 60, 2) := by decide +kernel
theorem dX5_as_21 : decode cX5_as 21 = .ok (.invokevirtual 61, 3) := by decide +kernel
theorem dX5_as_24 : decode cX5_as 24 = .ok (.ireturn, 1) := by decide +kernel
theorem dX5_as_25 : decode cX5_as 25 = .ok (.aload_n 0, 1) := by decide +kernel
theorem dX5_as_26 : decode cX5_as 26 = .ok (.getfield 10, 3) := by decide +kernel
theorem dX5_as_29 : decode cX5_as 29 = .ok (.getfield 76, 3) := by decide +kernel
theorem dX5_as_32 : decode cX5_as 32 = .ok (.iload_n 1, 1) := by decide +kernel
theorem dX5_as_33 : decode cX5_as 33 = .ok (.iaload, 1) := by decide +kernel
theorem dX5_as_34 : decode cX5_as 34 = .ok (.iload_n 2, 1) := by decide +kernel
theorem dX5_as_35 : decode cX5_as 35 = .ok (.invokestatic 97, 3) := by decide +kernel
theorem dX5_as_38 : decode cX5_as 38 = .ok (.ifCond .ne 10, 3) := by decide +kernel
theorem dX5_as_41 : decode cX5_as 41 = .ok (.aload_n 0, 1) := by decide +kernel
theorem dX5_as_42 : decode cX5_as 42 = .ok (.ldc 101, 2) := by decide +kernel
theorem dX5_as_44 : decode cX5_as 44 = .ok (.invokevirtual 61, 3) := by decide +kernel
theorem dX5_as_47 : decode cX5_as 47 = .ok (.ireturn, 1) := by decide +kernel
theorem dX5_as_48 : decode cX5_as 48 = .ok (.aload_n 0, 1) := by decide +kernel
theorem dX5_as_49 : decode cX5_as 49 = .ok (.getfield 10, 3) := by decide +kernel
theorem dX5_as_52 : decode cX5_as 52 = .ok (.getfield 85, 3) := by decide +kernel
theorem dX5_as_55 : decode cX5_as 55 = .ok (.iload_n 1, 1) := by decide +kernel
theorem dX5_as_56 : decode cX5_as 56 = .ok (.iaload, 1) := by decide +kernel
theorem dX5_as_57 : decode cX5_as 57 = .ok (.ireturn, 1) := by decide +kernel
theorem dX5_price_0 : decode cX5_price 0 = .ok (.iload_n 1, 1) := by decide +kernel
theorem dX5_price_1 : decode cX5_price 1 = .ok (.ifCond .lt 9, 3) := by decide +kernel
theorem dX5_price_4 : decode cX5_price 4 = .ok (.iload_n 1, 1) := by decide +kernel
theorem dX5_price_5 : decode cX5_price 5 = .ok (.bipush 99, 2) := by decide +kernel
theorem dX5_price_7 : decode cX5_price 7 = .ok (.if_icmp .le 10, 3) := by decide +kernel
theorem dX5_price_10 : decode cX5_price 10 = .ok (.aload_n 0, 1) := by decide +kernel
theorem dX5_price_11 : decode cX5_price 11 = .ok (.ldc 60, 2) := by decide +kernel
theorem dX5_price_13 : decode cX5_price 13 = .ok (.invokevirtual 61, 3) := by decide +kernel
theorem dX5_price_16 : decode cX5_price 16 = .ok (.ireturn, 1) := by decide +kernel
theorem dX5_price_17 : decode cX5_price 17 = .ok (.aload_n 0, 1) := by decide +kernel
theorem dX5_price_18 : decode cX5_price 18 = .ok (.getfield 10, 3) := by decide +kernel
theorem dX5_price_21 : decode cX5_price 21 = .ok (.getfield 102, 3) := by decide +kernel
theorem dX5_price_24 : decode cX5_price 24 = .ok (.istore_n 2, 1) := by decide +kernel
theorem dX5_price_25 : decode cX5_price 25 = .ok (.aload_n 0, 1) := by decide +kernel
theorem dX5_price_26 : decode cX5_price 26 = .ok (.getfield 10, 3) := by decide +kernel
theorem dX5_price_29 : decode cX5_price 29 = .ok (.iload_n 1, 1) := by decide +kernel
theorem dX5_price_30 : decode cX5_price 30 = .ok (.putfield 102, 3) := by decide +kernel
theorem dX5_price_33 : decode cX5_price 33 = .ok (.iload_n 2, 1) := by decide +kernel
theorem dX5_price_34 : decode cX5_price 34 = .ok (.ireturn, 1) := by decide +kernel
theorem dX5_at_0 : decode cX5_at 0 = .ok (.iload_n 1, 1) := by decide +kernel
theorem dX5_at_1 : decode cX5_at 1 = .ok (.invokestatic 105, 3) := by decide +kernel
theorem dX5_at_4 : decode cX5_at 4 = .ok (.ifCond .ne 10, 3) := by decide +kernel
theorem dX5_at_7 : decode cX5_at 7 = .ok (.aload_n 0, 1) := by decide +kernel
theorem dX5_at_8 : decode cX5_at 8 = .ok (.ldc 60, 2) := by decide +kernel
theorem dX5_at_10 : decode cX5_at 10 = .ok (.invokevirtual 61, 3) := by decide +kernel
theorem dX5_at_13 : decode cX5_at 13 = .ok (.ireturn, 1) := by decide +kernel
theorem dX5_at_14 : decode cX5_at 14 = .ok (.aload_n 0, 1) := by decide +kernel
theorem dX5_at_15 : decode cX5_at 15 = .ok (.getfield 10, 3) := by decide +kernel
theorem dX5_at_18 : decode cX5_at 18 = .ok (.iload_n 1, 1) := by decide +kernel
theorem dX5_at_19 : decode cX5_at 19 = .ok (.invokevirtual 108, 3) := by decide +kernel
theorem dX5_at_22 : decode cX5_at 22 = .ok (.ifCond .eq 12, 3) := by decide +kernel
theorem dX5_at_25 : decode cX5_at 25 = .ok (.aload_n 0, 1) := by decide +kernel
theorem dX5_at_26 : decode cX5_at 26 = .ok (.ldc 111, 2) := by decide +kernel
theorem dX5_at_28 : decode cX5_at 28 = .ok (.invokevirtual 61, 3) := by decide +kernel
theorem dX5_at_31 : decode cX5_at 31 = .ok (.goto 12, 3) := by decide +kernel
theorem dX5_at_34 : decode cX5_at 34 = .ok (.aload_n 0, 1) := by decide +kernel
theorem dX5_at_35 : decode cX5_at 35 = .ok (.getfield 10, 3) := by decide +kernel
theorem dX5_at_38 : decode cX5_at 38 = .ok (.getfield 112, 3) := by decide +kernel
theorem dX5_at_41 : decode cX5_at 41 = .ok (.iload_n 1, 1) := by decide +kernel
theorem dX5_at_42 : decode cX5_at 42 = .ok (.iaload, 1) := by decide +kernel
theorem dX5_at_43 : decode cX5_at 43 = .ok (.ireturn, 1) := by decide +kernel
theorem dX5_hang_0 : decode cX5_hang 0 = .ok (.aload_n 0, 1) := by decide +kernel
theorem dX5_hang_1 : decode cX5_hang 1 = .ok (.getfield 10, 3) := by decide +kernel
theorem dX5_hang_4 : decode cX5_hang 4 = .ok (.iload_n 1, 1) := by decide +kernel
theorem dX5_hang_5 : decode cX5_hang 5 = .ok (.invokevirtual 73, 3) := by decide +kernel
theorem dX5_hang_8 : decode cX5_hang 8 = .ok (.ifCond .eq 10, 3) := by decide +kernel
theorem dX5_hang_11 : decode cX5_hang 11 = .ok (.iload_n 2, 1) := by decide +kernel
theorem dX5_hang_12 : decode cX5_hang 12 = .ok (.invokestatic 105, 3) := by decide +kernel
theorem dX5_hang_15 : decode cX5_hang 15 = .ok (.ifCond .ne 10, 3) := by decide +kernel
theorem dX5_hang_18 : decode cX5_hang 18 = .ok (.aload_n 0, 1) := by decide +kernel
theorem dX5_hang_19 : decode cX5_hang 19 = .ok (.ldc 60, 2) := by decide +kernel
theorem dX5_hang_21 : decode cX5_hang 21 = .ok (.invokevirtual 61, 3) := by decide +kernel
theorem dX5_hang_24 : decode cX5_hang 24 = .ok (.ireturn, 1) := by decide +kernel
theorem dX5_hang_25 : decode cX5_hang 25 = .ok (.aload_n 0, 1) := by decide +kernel
theorem dX5_hang_26 : decode cX5_hang 26 = .ok (.getfield 10, 3) := by decide +kernel
theorem dX5_hang_29 : decode cX5_hang 29 = .ok (.iload_n 1, 1) := by decide +kernel
theorem dX5_hang_30 : decode cX5_hang 30 = .ok (.invokevirtual 115, 3) := by decide +kernel
theorem dX5_hang_33 : decode cX5_hang 33 = .ok (.ifCond .ne 14, 3) := by decide +kernel
theorem dX5_hang_36 : decode cX5_hang 36 = .ok (.aload_n 0, 1) := by decide +kernel
theorem dX5_hang_37 : decode cX5_hang 37 = .ok (.getfield 10, 3) := by decide +kernel
theorem dX5_hang_40 : decode cX5_hang 40 = .ok (.iload_n 2, 1) := by decide +kernel
theorem dX5_hang_41 : decode cX5_hang 41 = .ok (.invokevirtual 108, 3) := by decide +kernel
theorem dX5_hang_44 : decode cX5_hang 44 = .ok (.ifCond .ne 10, 3) := by decide +kernel
theorem dX5_hang_47 : decode cX5_hang 47 = .ok (.aload_n 0, 1) := by decide +kernel
theorem dX5_hang_48 : decode cX5_hang 48 = .ok (.ldc 118, 2) := by decide +kernel
theorem dX5_hang_50 : decode cX5_hang 50 = .ok (.invokevirtual 61, 3) := by decide +kernel
theorem dX5_hang_53 : decode cX5_hang 53 = .ok (.ireturn, 1) := by decide +kernel
theorem dX5_hang_54 : decode cX5_hang 54 = .ok (.aload_n 0, 1) := by decide +kernel
theorem dX5_hang_55 : decode cX5_hang 55 = .ok (.getfield 10, 3) := by decide +kernel
theorem dX5_hang_58 : decode cX5_hang 58 = .ok (.iload_n 1, 1) := by decide +kernel
theorem dX5_hang_59 : decode cX5_hang 59 = .ok (.iload_n 2, 1) := by decide +kernel
theorem dX5_hang_60 : decode cX5_hang 60 = .ok (.invokevirtual 119, 3) := by decide +kernel
theorem dX5_hang_63 : decode cX5_hang 63 = .ok (.aload_n 0, 1) := by decide +kernel
theorem dX5_hang_64 : decode cX5_hang 64 = .ok (.getfield 10, 3) := by decide +kernel
theorem dX5_hang_67 : decode cX5_hang 67 = .ok (.invokevirtual 123, 3) := by decide +kernel
theorem dX5_hang_70 : decode cX5_hang 70 = .ok (.aload_n 0, 1) := by decide +kernel
theorem dX5_hang_71 : decode cX5_hang 71 = .ok (.getfield 10, 3) := by decide +kernel
theorem dX5_hang_74 : decode cX5_hang 74 = .ok (.invokevirtual 126, 3) := by decide +kernel
theorem dX5_hang_77 : decode cX5_hang 77 = .ok (.invokestatic 130, 3) := by decide +kernel
theorem dX5_hang_80 : decode cX5_hang 80 = .ok (.ireturn, 1) := by decide +kernel
theorem dX5_face_0 : decode cX5_face 0 = .ok (.aload_n 0, 1) := by decide +kernel
theorem dX5_face_1 : decode cX5_face 1 = .ok (.getfield 10, 3) := by decide +kernel
theorem dX5_face_4 : decode cX5_face 4 = .ok (.iload_n 1, 1) := by decide +kernel
theorem dX5_face_5 : decode cX5_face 5 = .ok (.invokevirtual 73, 3) := by decide +kernel
theorem dX5_face_8 : decode cX5_face 8 = .ok (.ifCond .ne 10, 3) := by decide +kernel
theorem dX5_face_11 : decode cX5_face 11 = .ok (.aload_n 0, 1) := by decide +kernel
theorem dX5_face_12 : decode cX5_face 12 = .ok (.ldc 60, 2) := by decide +kernel
theorem dX5_face_14 : decode cX5_face 14 = .ok (.invokevirtual 61, 3) := by decide +kernel
theorem dX5_face_17 : decode cX5_face 17 = .ok (.ireturn, 1) := by decide +kernel
theorem dX5_face_18 : decode cX5_face 18 = .ok (.aload_n 0, 1) := by decide +kernel
theorem dX5_face_19 : decode cX5_face 19 = .ok (.getfield 10, 3) := by decide +kernel
theorem dX5_face_22 : decode cX5_face 22 = .ok (.dup, 1) := by decide +kernel
theorem dX5_face_23 : decode cX5_face 23 = .ok (.getfield 135, 3) := by decide +kernel
theorem dX5_face_26 : decode cX5_face 26 = .ok (.iconst 1, 1) := by decide +kernel
theorem dX5_face_27 : decode cX5_face 27 = .ok (.iload_n 1, 1) := by decide +kernel
theorem dX5_face_28 : decode cX5_face 28 = .ok (.ishl, 1) := by decide +kernel
theorem dX5_face_29 : decode cX5_face 29 = .ok (.ixor, 1) := by decide +kernel
theorem dX5_face_30 : decode cX5_face 30 = .ok (.putfield 135, 3) := by decide +kernel
theorem dX5_face_33 : decode cX5_face 33 = .ok (.aload_n 0, 1) := by decide +kernel
theorem dX5_face_34 : decode cX5_face 34 = .ok (.getfield 10, 3) := by decide +kernel
theorem dX5_face_37 : decode cX5_face 37 = .ok (.invokevirtual 123, 3) := by decide +kernel
theorem dX5_face_40 : decode cX5_face 40 = .ok (.aload_n 0, 1) := by decide +kernel
theorem dX5_face_41 : decode cX5_face 41 = .ok (.getfield 10, 3) := by decide +kernel
theorem dX5_face_44 : decode cX5_face 44 = .ok (.iload_n 1, 1) := by decide +kernel
theorem dX5_face_45 : decode cX5_face 45 = .ok (.invokevirtual 82, 3) := by decide +kernel
theorem dX5_face_48 : decode cX5_face 48 = .ok (.ireturn, 1) := by decide +kernel
theorem dX5_shift_0 : decode cX5_shift 0 = .ok (.aload_n 0, 1) := by decide +kernel
theorem dX5_shift_1 : decode cX5_shift 1 = .ok (.getfield 10, 3) := by decide +kernel
theorem dX5_shift_4 : decode cX5_shift 4 = .ok (.iload_n 1, 1) := by decide +kernel
theorem dX5_shift_5 : decode cX5_shift 5 = .ok (.invokevirtual 73, 3) := by decide +kernel
theorem dX5_shift_8 : decode cX5_shift 8 = .ok (.ifCond .ne 10, 3) := by decide +kernel
theorem dX5_shift_11 : decode cX5_shift 11 = .ok (.aload_n 0, 1) := by decide +kernel
theorem dX5_shift_12 : decode cX5_shift 12 = .ok (.ldc 60, 2) := by decide +kernel
theorem dX5_shift_14 : decode cX5_shift 14 = .ok (.invokevirtual 61, 3) := by decide +kernel
theorem dX5_shift_17 : decode cX5_shift 17 = .ok (.ireturn, 1) := by decide +kernel
theorem dX5_shift_18 : decode cX5_shift 18 = .ok (.aload_n 0, 1) := by decide +kernel
theorem dX5_shift_19 : decode cX5_shift 19 = .ok (.getfield 10, 3) := by decide +kernel
theorem dX5_shift_22 : decode cX5_shift 22 = .ok (.iload_n 1, 1) := by decide +kernel
theorem dX5_shift_23 : decode cX5_shift 23 = .ok (.invokevirtual 115, 3) := by decide +kernel
theorem dX5_shift_26 : decode cX5_shift 26 = .ok (.ifCond .eq 15, 3) := by decide +kernel
theorem dX5_shift_29 : decode cX5_shift 29 = .ok (.iload_n 2, 1) := by decide +kernel
theorem dX5_shift_30 : decode cX5_shift 30 = .ok (.bipush (-24), 2) := by decide +kernel
theorem dX5_shift_32 : decode cX5_shift 32 = .ok (.if_icmp .le 9, 3) := by decide +kernel
theorem dX5_shift_35 : decode cX5_shift 35 = .ok (.iload_n 2, 1) := by decide +kernel
theorem dX5_shift_36 : decode cX5_shift 36 = .ok (.bipush 24, 2) := by decide +kernel
theorem dX5_shift_38 : decode cX5_shift 38 = .ok (.if_icmp .lt 10, 3) := by decide +kernel
theorem dX5_shift_41 : decode cX5_shift 41 = .ok (.aload_n 0, 1) := by decide +kernel
theorem dX5_shift_42 : decode cX5_shift 42 = .ok (.ldc 118, 2) := by decide +kernel
theorem dX5_shift_44 : decode cX5_shift 44 = .ok (.invokevirtual 61, 3) := by decide +kernel
theorem dX5_shift_47 : decode cX5_shift 47 = .ok (.ireturn, 1) := by decide +kernel
theorem dX5_shift_48 : decode cX5_shift 48 = .ok (.aload_n 0, 1) := by decide +kernel
theorem dX5_shift_49 : decode cX5_shift 49 = .ok (.getfield 10, 3) := by decide +kernel
theorem dX5_shift_52 : decode cX5_shift 52 = .ok (.getfield 79, 3) := by decide +kernel
theorem dX5_shift_55 : decode cX5_shift 55 = .ok (.iload_n 1, 1) := by decide +kernel
theorem dX5_shift_56 : decode cX5_shift 56 = .ok (.iaload, 1) := by decide +kernel
theorem dX5_shift_57 : decode cX5_shift 57 = .ok (.iload_n 2, 1) := by decide +kernel
theorem dX5_shift_58 : decode cX5_shift 58 = .ok (.iadd, 1) := by decide +kernel
theorem dX5_shift_59 : decode cX5_shift 59 = .ok (.istore_n 3, 1) := by decide +kernel
theorem dX5_shift_60 : decode cX5_shift 60 = .ok (.iload_n 3, 1) := by decide +kernel
theorem dX5_shift_61 : decode cX5_shift 61 = .ok (.invokestatic 105, 3) := by decide +kernel
theorem dX5_shift_64 : decode cX5_shift 64 = .ok (.ifCond .eq 14, 3) := by decide +kernel
theorem dX5_shift_67 : decode cX5_shift 67 = .ok (.aload_n 0, 1) := by decide +kernel
theorem dX5_shift_68 : decode cX5_shift 68 = .ok (.getfield 10, 3) := by decide +kernel
theorem dX5_shift_71 : decode cX5_shift 71 = .ok (.iload_n 3, 1) := by decide +kernel
theorem dX5_shift_72 : decode cX5_shift 72 = .ok (.invokevirtual 108, 3) := by decide +kernel
theorem dX5_shift_75 : decode cX5_shift 75 = .ok (.ifCond .ne 10, 3) := by decide +kernel
theorem dX5_shift_78 : decode cX5_shift 78 = .ok (.aload_n 0, 1) := by decide +kernel
theorem dX5_shift_79 : decode cX5_shift 79 = .ok (.ldc 118, 2) := by decide +kernel
theorem dX5_shift_81 : decode cX5_shift 81 = .ok (.invokevirtual 61, 3) := by decide +kernel
theorem dX5_shift_84 : decode cX5_shift 84 = .ok (.ireturn, 1) := by decide +kernel
theorem dX5_shift_85 : decode cX5_shift 85 = .ok (.aload_n 0, 1) := by decide +kernel
theorem dX5_shift_86 : decode cX5_shift 86 = .ok (.getfield 10, 3) := by decide +kernel
theorem dX5_shift_89 : decode cX5_shift 89 = .ok (.iload_n 1, 1) := by decide +kernel
theorem dX5_shift_90 : decode cX5_shift 90 = .ok (.invokevirtual 138, 3) := by decide +kernel
theorem dX5_shift_93 : decode cX5_shift 93 = .ok (.aload_n 0, 1) := by decide +kernel
theorem dX5_shift_94 : decode cX5_shift 94 = .ok (.getfield 10, 3) := by decide +kernel
theorem dX5_shift_97 : decode cX5_shift 97 = .ok (.iload_n 1, 1) := by decide +kernel
theorem dX5_shift_98 : decode cX5_shift 98 = .ok (.iload_n 3, 1) := by decide +kernel
theorem dX5_shift_99 : decode cX5_shift 99 = .ok (.invokevirtual 119, 3) := by decide +kernel
theorem dX5_shift_102 : decode cX5_shift 102 = .ok (.aload_n 0, 1) := by decide +kernel
theorem dX5_shift_103 : decode cX5_shift 103 = .ok (.getfield 10, 3) := by decide +kernel
theorem dX5_shift_106 : decode cX5_shift 106 = .ok (.invokevirtual 123, 3) := by decide +kernel
theorem dX5_shift_109 : decode cX5_shift 109 = .ok (.iload_n 3, 1) := by decide +kernel
theorem dX5_shift_110 : decode cX5_shift 110 = .ok (.ireturn, 1) := by decide +kernel
theorem dX5_take_0 : decode cX5_take 0 = .ok (.aload_n 0, 1) := by decide +kernel
theorem dX5_take_1 : decode cX5_take 1 = .ok (.iload_n 1, 1) := by decide +kernel
theorem dX5_take_2 : decode cX5_take 2 = .ok (.iload_n 2, 1) := by decide +kernel
theorem dX5_take_3 : decode cX5_take 3 = .ok (.invokevirtual 142, 3) := by decide +kernel
theorem dX5_take_6 : decode cX5_take 6 = .ok (.istore_n 3, 1) := by decide +kernel
theorem dX5_take_7 : decode cX5_take 7 = .ok (.iload_n 3, 1) := by decide +kernel
theorem dX5_take_8 : decode cX5_take 8 = .ok (.ifCond .eq 9, 3) := by decide +kernel
theorem dX5_take_11 : decode cX5_take 11 = .ok (.aload_n 0, 1) := by decide +kernel
theorem dX5_take_12 : decode cX5_take 12 = .ok (.iload_n 3, 1) := by decide +kernel
theorem dX5_take_13 : decode cX5_take 13 = .ok (.invokevirtual 61, 3) := by decide +kernel
theorem dX5_take_16 : decode cX5_take 16 = .ok (.ireturn, 1) := by decide +kernel
theorem dX5_take_17 : decode cX5_take 17 = .ok (.aload_n 0, 1) := by decide +kernel
theorem dX5_take_18 : decode cX5_take 18 = .ok (.getfield 25, 3) := by decide +kernel
theorem dX5_take_21 : decode cX5_take 21 = .ok (.aload_n 0, 1) := by decide +kernel
theorem dX5_take_22 : decode cX5_take 22 = .ok (.getfield 10, 3) := by decide +kernel
theorem dX5_take_25 : decode cX5_take 25 = .ok (.invokevirtual 146, 3) := by decide +kernel
theorem dX5_take_28 : decode cX5_take 28 = .ok (.aload_n 0, 1) := by decide +kernel
theorem dX5_take_29 : decode cX5_take 29 = .ok (.getfield 25, 3) := by decide +kernel
theorem dX5_take_32 : decode cX5_take 32 = .ok (.iload_n 1, 1) := by decide +kernel
theorem dX5_take_33 : decode cX5_take 33 = .ok (.iload_n 2, 1) := by decide +kernel
theorem dX5_take_34 : decode cX5_take 34 = .ok (.invokevirtual 150, 3) := by decide +kernel
theorem dX5_take_37 : decode cX5_take 37 = .ok (.istore 4, 2) := by decide +kernel
theorem dX5_take_39 : decode cX5_take 39 = .ok (.aload_n 0, 1) := by decide +kernel
theorem dX5_take_40 : decode cX5_take 40 = .ok (.getfield 10, 3) := by decide +kernel
theorem dX5_take_43 : decode cX5_take 43 = .ok (.aload_n 0, 1) := by decide +kernel
theorem dX5_take_44 : decode cX5_take 44 = .ok (.getfield 10, 3) := by decide +kernel
theorem dX5_take_47 : decode cX5_take 47 = .ok (.iload 4, 2) := by decide +kernel
theorem dX5_take_49 : decode cX5_take 49 = .ok (.iload_n 1, 1) := by decide +kernel
theorem dX5_take_50 : decode cX5_take 50 = .ok (.iload_n 2, 1) := by decide +kernel
theorem dX5_take_51 : decode cX5_take 51 = .ok (.invokevirtual 153, 3) := by decide +kernel
theorem dX5_take_54 : decode cX5_take 54 = .ok (.invokevirtual 157, 3) := by decide +kernel
theorem dX5_take_57 : decode cX5_take 57 = .ok (.iconst 0, 1) := by decide +kernel
theorem dX5_take_58 : decode cX5_take 58 = .ok (.istore 5, 2) := by decide +kernel
theorem dX5_take_60 : decode cX5_take 60 = .ok (.iload 5, 2) := by decide +kernel
theorem dX5_take_62 : decode cX5_take 62 = .ok (.aload_n 0, 1) := by decide +kernel
theorem dX5_take_63 : decode cX5_take 63 = .ok (.getfield 10, 3) := by decide +kernel
theorem dX5_take_66 : decode cX5_take 66 = .ok (.getfield 65, 3) := by decide +kernel
theorem dX5_take_69 : decode cX5_take 69 = .ok (.if_icmp .ge 28, 3) := by decide +kernel
theorem dX5_take_72 : decode cX5_take 72 = .ok (.iload 4, 2) := by decide +kernel
theorem dX5_take_74 : decode cX5_take 74 = .ok (.iload 5, 2) := by decide +kernel
theorem dX5_take_76 : decode cX5_take 76 = .ok (.invokestatic 160, 3) := by decide +kernel
theorem dX5_take_79 : decode cX5_take 79 = .ok (.ifCond .eq 12, 3) := by decide +kernel
theorem dX5_take_82 : decode cX5_take 82 = .ok (.aload_n 0, 1) := by decide +kernel
theorem dX5_take_83 : decode cX5_take 83 = .ok (.getfield 10, 3) := by decide +kernel
theorem dX5_take_86 : decode cX5_take 86 = .ok (.iload 5, 2) := by decide +kernel
theorem dX5_take_88 : decode cX5_take 88 = .ok (.invokevirtual 138, 3) := by decide +kernel
theorem dX5_take_91 : decode cX5_take 91 = .ok (.iinc 5 1, 3) := by decide +kernel
theorem dX5_take_94 : decode cX5_take 94 = .ok (.goto (-34), 3) := by decide +kernel
theorem dX5_take_97 : decode cX5_take 97 = .ok (.aload_n 0, 1) := by decide +kernel
theorem dX5_take_98 : decode cX5_take 98 = .ok (.getfield 10, 3) := by decide +kernel
theorem dX5_take_101 : decode cX5_take 101 = .ok (.invokevirtual 123, 3) := by decide +kernel
theorem dX5_take_104 : decode cX5_take 104 = .ok (.iload 4, 2) := by decide +kernel
theorem dX5_take_106 : decode cX5_take 106 = .ok (.ireturn, 1) := by decide +kernel
theorem dX5_now_0 : decode cX5_now 0 = .ok (.iload_n 1, 1) := by decide +kernel
theorem dX5_now_1 : decode cX5_now 1 = .ok (.tableswitch 123 0 6 #[43, 51, 59, 85, 93, 101, 109], 43) := by decide +kernel
theorem dX5_now_44 : decode cX5_now 44 = .ok (.aload_n 0, 1) := by decide +kernel
theorem dX5_now_45 : decode cX5_now 45 = .ok (.getfield 10, 3) := by decide +kernel
theorem dX5_now_48 : decode cX5_now 48 = .ok (.getfield 163, 3) := by decide +kernel
theorem dX5_now_51 : decode cX5_now 51 = .ok (.ireturn, 1) := by decide +kernel
theorem dX5_now_52 : decode cX5_now 52 = .ok (.aload_n 0, 1) := by decide +kernel
theorem dX5_now_53 : decode cX5_now 53 = .ok (.getfield 10, 3) := by decide +kernel
theorem dX5_now_56 : decode cX5_now 56 = .ok (.invokevirtual 126, 3) := by decide +kernel
theorem dX5_now_59 : decode cX5_now 59 = .ok (.ireturn, 1) := by decide +kernel
theorem dX5_now_60 : decode cX5_now 60 = .ok (.aload_n 0, 1) := by decide +kernel
theorem dX5_now_61 : decode cX5_now 61 = .ok (.getfield 25, 3) := by decide +kernel
theorem dX5_now_64 : decode cX5_now 64 = .ok (.aload_n 0, 1) := by decide +kernel
theorem dX5_now_65 : decode cX5_now 65 = .ok (.getfield 10, 3) := by decide +kernel
theorem dX5_now_68 : decode cX5_now 68 = .ok (.invokevirtual 146, 3) := by decide +kernel
theorem dX5_now_71 : decode cX5_now 71 = .ok (.aload_n 0, 1) := by decide +kernel
theorem dX5_now_72 : decode cX5_now 72 = .ok (.getfield 25, 3) := by decide +kernel
theorem dX5_now_75 : decode cX5_now 75 = .ok (.aload_n 0, 1) := by decide +kernel
theorem dX5_now_76 : decode cX5_now 76 = .ok (.getfield 10, 3) := by decide +kernel
theorem dX5_now_79 : decode cX5_now 79 = .ok (.getfield 135, 3) := by decide +kernel
theorem dX5_now_82 : decode cX5_now 82 = .ok (.invokevirtual 166, 3) := by decide +kernel
theorem dX5_now_85 : decode cX5_now 85 = .ok (.ireturn, 1) := by decide +kernel
theorem dX5_now_86 : decode cX5_now 86 = .ok (.aload_n 0, 1) := by decide +kernel
theorem dX5_now_87 : decode cX5_now 87 = .ok (.getfield 10, 3) := by decide +kernel
theorem dX5_now_90 : decode cX5_now 90 = .ok (.invokevirtual 169, 3) := by decide +kernel
theorem dX5_now_93 : decode cX5_now 93 = .ok (.ireturn, 1) := by decide +kernel
theorem dX5_now_94 : decode cX5_now 94 = .ok (.aload_n 0, 1) := by decide +kernel
theorem dX5_now_95 : decode cX5_now 95 = .ok (.getfield 10, 3) := by decide +kernel
theorem dX5_now_98 : decode cX5_now 98 = .ok (.invokevirtual 172, 3) := by decide +kernel
theorem dX5_now_101 : decode cX5_now 101 = .ok (.ireturn, 1) := by decide +kernel
theorem dX5_now_102 : decode cX5_now 102 = .ok (.aload_n 0, 1) := by decide +kernel
theorem dX5_now_103 : decode cX5_now 103 = .ok (.getfield 10, 3) := by decide +kernel
theorem dX5_now_106 : decode cX5_now 106 = .ok (.getfield 102, 3) := by decide +kernel
theorem dX5_now_109 : decode cX5_now 109 = .ok (.ireturn, 1) := by decide +kernel
theorem dX5_now_110 : decode cX5_now 110 = .ok (.bipush 24, 2) := by decide +kernel
theorem dX5_now_112 : decode cX5_now 112 = .ok (.aload_n 0, 1) := by decide +kernel
theorem dX5_now_113 : decode cX5_now 113 = .ok (.getfield 10, 3) := by decide +kernel
theorem dX5_now_116 : decode cX5_now 116 = .ok (.invokevirtual 126, 3) := by decide +kernel
theorem dX5_now_119 : decode cX5_now 119 = .ok (.invokestatic 130, 3) := by decide +kernel
theorem dX5_now_122 : decode cX5_now 122 = .ok (.isub, 1) := by decide +kernel
theorem dX5_now_123 : decode cX5_now 123 = .ok (.ireturn, 1) := by decide +kernel
theorem dX5_now_124 : decode cX5_now 124 = .ok (.aload_n 0, 1) := by decide +kernel
theorem dX5_now_125 : decode cX5_now 125 = .ok (.ldc 60, 2) := by decide +kernel
theorem dX5_now_127 : decode cX5_now 127 = .ok (.invokevirtual 61, 3) := by decide +kernel
theorem dX5_now_130 : decode cX5_now 130 = .ok (.ireturn, 1) := by decide +kernel
theorem dX5_tangled_0 : decode cX5_tangled 0 = .ok (.aload_n 0, 1) := by decide +kernel
theorem dX5_tangled_1 : decode cX5_tangled 1 = .ok (.getfield 10, 3) := by decide +kernel
theorem dX5_tangled_4 : decode cX5_tangled 4 = .ok (.iload_n 1, 1) := by decide +kernel
theorem dX5_tangled_5 : decode cX5_tangled 5 = .ok (.invokevirtual 73, 3) := by decide +kernel
theorem dX5_tangled_8 : decode cX5_tangled 8 = .ok (.ifCond .ne 10, 3) := by decide +kernel
theorem dX5_tangled_11 : decode cX5_tangled 11 = .ok (.aload_n 0, 1) := by decide +kernel
theorem dX5_tangled_12 : decode cX5_tangled 12 = .ok (.ldc 60, 2) := by decide +kernel
theorem dX5_tangled_14 : decode cX5_tangled 14 = .ok (.invokevirtual 61, 3) := by decide +kernel
theorem dX5_tangled_17 : decode cX5_tangled 17 = .ok (.ireturn, 1) := by decide +kernel
theorem dX5_tangled_18 : decode cX5_tangled 18 = .ok (.aload_n 0, 1) := by decide +kernel
theorem dX5_tangled_19 : decode cX5_tangled 19 = .ok (.getfield 10, 3) := by decide +kernel
theorem dX5_tangled_22 : decode cX5_tangled 22 = .ok (.iload_n 1, 1) := by decide +kernel
theorem dX5_tangled_23 : decode cX5_tangled 23 = .ok (.invokevirtual 115, 3) := by decide +kernel
theorem dX5_tangled_26 : decode cX5_tangled 26 = .ok (.ifCond .ne 5, 3) := by decide +kernel
theorem dX5_tangled_29 : decode cX5_tangled 29 = .ok (.iconst 0, 1) := by decide +kernel
theorem dX5_tangled_30 : decode cX5_tangled 30 = .ok (.ireturn, 1) := by decide +kernel
theorem dX5_tangled_31 : decode cX5_tangled 31 = .ok (.aload_n 0, 1) := by decide +kernel
theorem dX5_tangled_32 : decode cX5_tangled 32 = .ok (.getfield 10, 3) := by decide +kernel
theorem dX5_tangled_35 : decode cX5_tangled 35 = .ok (.iload_n 1, 1) := by decide +kernel
theorem dX5_tangled_36 : decode cX5_tangled 36 = .ok (.aload_n 0, 1) := by decide +kernel
theorem dX5_tangled_37 : decode cX5_tangled 37 = .ok (.getfield 10, 3) := by decide +kernel
theorem dX5_tangled_40 : decode cX5_tangled 40 = .ok (.getfield 76, 3) := by decide +kernel
theorem dX5_tangled_43 : decode cX5_tangled 43 = .ok (.iload_n 1, 1) := by decide +kernel
theorem dX5_tangled_44 : decode cX5_tangled 44 = .ok (.iaload, 1) := by decide +kernel
theorem dX5_tangled_45 : decode cX5_tangled 45 = .ok (.aload_n 0, 1) := by decide +kernel
theorem dX5_tangled_46 : decode cX5_tangled 46 = .ok (.getfield 10, 3) := by decide +kernel
theorem dX5_tangled_49 : decode cX5_tangled 49 = .ok (.getfield 79, 3) := by decide +kernel
theorem dX5_tangled_52 : decode cX5_tangled 52 = .ok (.iload_n 1, 1) := by decide +kernel
theorem dX5_tangled_53 : decode cX5_tangled 53 = .ok (.iaload, 1) := by decide +kernel
theorem dX5_tangled_54 : decode cX5_tangled 54 = .ok (.invokevirtual 175, 3) := by decide +kernel
theorem dX5_tangled_57 : decode cX5_tangled 57 = .ok (.ireturn, 1) := by decide +kernel
theorem dX5_catches_0 : decode cX5_catches 0 = .ok (.aload_n 0, 1) := by decide +kernel
theorem dX5_catches_1 : decode cX5_catches 1 = .ok (.getfield 10, 3) := by decide +kernel
theorem dX5_catches_4 : decode cX5_catches 4 = .ok (.iload_n 1, 1) := by decide +kernel
theorem dX5_catches_5 : decode cX5_catches 5 = .ok (.invokevirtual 73, 3) := by decide +kernel
theorem dX5_catches_8 : decode cX5_catches 8 = .ok (.ifCond .eq 19, 3) := by decide +kernel
theorem dX5_catches_11 : decode cX5_catches 11 = .ok (.aload_n 0, 1) := by decide +kernel
theorem dX5_catches_12 : decode cX5_catches 12 = .ok (.getfield 10, 3) := by decide +kernel
theorem dX5_catches_15 : decode cX5_catches 15 = .ok (.iload_n 2, 1) := by decide +kernel
theorem dX5_catches_16 : decode cX5_catches 16 = .ok (.invokevirtual 73, 3) := by decide +kernel
theorem dX5_catches_19 : decode cX5_catches 19 = .ok (.ifCond .eq 8, 3) := by decide +kernel
theorem dX5_catches_22 : decode cX5_catches 22 = .ok (.iload_n 1, 1) := by decide +kernel
theorem dX5_catches_23 : decode cX5_catches 23 = .ok (.iload_n 2, 1) := by decide +kernel
theorem dX5_catches_24 : decode cX5_catches 24 = .ok (.if_icmp .ne 10, 3) := by decide +kernel
theorem dX5_catches_27 : decode cX5_catches 27 = .ok (.aload_n 0, 1) := by decide +kernel
theorem dX5_catches_28 : decode cX5_catches 28 = .ok (.ldc 60, 2) := by decide +kernel
theorem dX5_catches_30 : decode cX5_catches 30 = .ok (.invokevirtual 61, 3) := by decide +kernel
theorem dX5_catches_33 : decode cX5_catches 33 = .ok (.ireturn, 1) := by decide +kernel
theorem dX5_catches_34 : decode cX5_catches 34 = .ok (.aload_n 0, 1) := by decide +kernel
theorem dX5_catches_35 : decode cX5_catches 35 = .ok (.getfield 10, 3) := by decide +kernel
theorem dX5_catches_38 : decode cX5_catches 38 = .ok (.iload_n 1, 1) := by decide +kernel
theorem dX5_catches_39 : decode cX5_catches 39 = .ok (.invokevirtual 115, 3) := by decide +kernel
theorem dX5_catches_42 : decode cX5_catches 42 = .ok (.ifCond .eq 14, 3) := by decide +kernel
theorem dX5_catches_45 : decode cX5_catches 45 = .ok (.aload_n 0, 1) := by decide +kernel
theorem dX5_catches_46 : decode cX5_catches 46 = .ok (.getfield 10, 3) := by decide +kernel
theorem dX5_catches_49 : decode cX5_catches 49 = .ok (.iload_n 2, 1) := by decide +kernel
theorem dX5_catches_50 : decode cX5_catches 50 = .ok (.invokevirtual 115, 3) := by decide +kernel
theorem dX5_catches_53 : decode cX5_catches 53 = .ok (.ifCond .ne 5, 3) := by decide +kernel
theorem dX5_catches_56 : decode cX5_catches 56 = .ok (.iconst 0, 1) := by decide +kernel
theorem dX5_catches_57 : decode cX5_catches 57 = .ok (.ireturn, 1) := by decide +kernel
theorem dX5_catches_58 : decode cX5_catches 58 = .ok (.aload_n 0, 1) := by decide +kernel
theorem dX5_catches_59 : decode cX5_catches 59 = .ok (.getfield 10, 3) := by decide +kernel
theorem dX5_catches_62 : decode cX5_catches 62 = .ok (.getfield 79, 3) := by decide +kernel
theorem dX5_catches_65 : decode cX5_catches 65 = .ok (.iload_n 1, 1) := by decide +kernel
theorem dX5_catches_66 : decode cX5_catches 66 = .ok (.iaload, 1) := by decide +kernel
theorem dX5_catches_67 : decode cX5_catches 67 = .ok (.aload_n 0, 1) := by decide +kernel
theorem dX5_catches_68 : decode cX5_catches 68 = .ok (.getfield 10, 3) := by decide +kernel
theorem dX5_catches_71 : decode cX5_catches 71 = .ok (.getfield 79, 3) := by decide +kernel
theorem dX5_catches_74 : decode cX5_catches 74 = .ok (.iload_n 2, 1) := by decide +kernel
theorem dX5_catches_75 : decode cX5_catches 75 = .ok (.iaload, 1) := by decide +kernel
theorem dX5_catches_76 : decode cX5_catches 76 = .ok (.isub, 1) := by decide +kernel
theorem dX5_catches_77 : decode cX5_catches 77 = .ok (.invokestatic 178, 3) := by decide +kernel
theorem dX5_catches_80 : decode cX5_catches 80 = .ok (.istore_n 3, 1) := by decide +kernel
theorem dX5_catches_81 : decode cX5_catches 81 = .ok (.aload_n 0, 1) := by decide +kernel
theorem dX5_catches_82 : decode cX5_catches 82 = .ok (.getfield 10, 3) := by decide +kernel
theorem dX5_catches_85 : decode cX5_catches 85 = .ok (.iload_n 1, 1) := by decide +kernel
theorem dX5_catches_86 : decode cX5_catches 86 = .ok (.invokevirtual 82, 3) := by decide +kernel
theorem dX5_catches_89 : decode cX5_catches 89 = .ok (.aload_n 0, 1) := by decide +kernel
theorem dX5_catches_90 : decode cX5_catches 90 = .ok (.getfield 10, 3) := by decide +kernel
theorem dX5_catches_93 : decode cX5_catches 93 = .ok (.iload_n 2, 1) := by decide +kernel
theorem dX5_catches_94 : decode cX5_catches 94 = .ok (.invokevirtual 82, 3) := by decide +kernel
theorem dX5_catches_97 : decode cX5_catches 97 = .ok (.if_icmp .ne 7, 3) := by decide +kernel
theorem dX5_catches_100 : decode cX5_catches 100 = .ok (.iconst 1, 1) := by decide +kernel
theorem dX5_catches_101 : decode cX5_catches 101 = .ok (.goto 4, 3) := by decide +kernel
theorem dX5_catches_104 : decode cX5_catches 104 = .ok (.iconst 0, 1) := by decide +kernel
theorem dX5_catches_105 : decode cX5_catches 105 = .ok (.istore 4, 2) := by decide +kernel
theorem dX5_catches_107 : decode cX5_catches 107 = .ok (.aload_n 0, 1) := by decide +kernel
theorem dX5_catches_108 : decode cX5_catches 108 = .ok (.getfield 10, 3) := by decide +kernel
theorem dX5_catches_111 : decode cX5_catches 111 = .ok (.getfield 85, 3) := by decide +kernel
theorem dX5_catches_114 : decode cX5_catches 114 = .ok (.iload_n 1, 1) := by decide +kernel
theorem dX5_catches_115 : decode cX5_catches 115 = .ok (.iaload, 1) := by decide +kernel
theorem dX5_catches_116 : decode cX5_catches 116 = .ok (.ifCond .le 7, 3) := by decide +kernel
theorem dX5_catches_119 : decode cX5_catches 119 = .ok (.iconst 1, 1) := by decide +kernel
theorem dX5_catches_120 : decode cX5_catches 120 = .ok (.goto 4, 3) := by decide +kernel
theorem dX5_catches_123 : decode cX5_catches 123 = .ok (.iconst 0, 1) := by decide +kernel
theorem dX5_catches_124 : decode cX5_catches 124 = .ok (.istore 5, 2) := by decide +kernel
theorem dX5_catches_126 : decode cX5_catches 126 = .ok (.aload_n 0, 1) := by decide +kernel
theorem dX5_catches_127 : decode cX5_catches 127 = .ok (.getfield 10, 3) := by decide +kernel
theorem dX5_catches_130 : decode cX5_catches 130 = .ok (.getfield 76, 3) := by decide +kernel
theorem dX5_catches_133 : decode cX5_catches 133 = .ok (.iload_n 1, 1) := by decide +kernel
theorem dX5_catches_134 : decode cX5_catches 134 = .ok (.iaload, 1) := by decide +kernel
theorem dX5_catches_135 : decode cX5_catches 135 = .ok (.iload_n 3, 1) := by decide +kernel
theorem dX5_catches_136 : decode cX5_catches 136 = .ok (.iload 4, 2) := by decide +kernel
theorem dX5_catches_138 : decode cX5_catches 138 = .ok (.iload 5, 2) := by decide +kernel
theorem dX5_catches_140 : decode cX5_catches 140 = .ok (.invokestatic 183, 3) := by decide +kernel
theorem dX5_catches_143 : decode cX5_catches 143 = .ok (.ifCond .eq 7, 3) := by decide +kernel
theorem dX5_catches_146 : decode cX5_catches 146 = .ok (.iconst 1, 1) := by decide +kernel
theorem dX5_catches_147 : decode cX5_catches 147 = .ok (.goto 4, 3) := by decide +kernel
theorem dX5_catches_150 : decode cX5_catches 150 = .ok (.iconst 0, 1) := by decide +kernel
theorem dX5_catches_151 : decode cX5_catches 151 = .ok (.ireturn, 1) := by decide +kernel
theorem dX5_comes_0 : decode cX5_comes 0 = .ok (.aload_n 0, 1) := by decide +kernel
theorem dX5_comes_1 : decode cX5_comes 1 = .ok (.iload_n 1, 1) := by decide +kernel
theorem dX5_comes_2 : decode cX5_comes 2 = .ok (.iload_n 2, 1) := by decide +kernel
theorem dX5_comes_3 : decode cX5_comes 3 = .ok (.invokevirtual 142, 3) := by decide +kernel
theorem dX5_comes_6 : decode cX5_comes 6 = .ok (.istore_n 3, 1) := by decide +kernel
theorem dX5_comes_7 : decode cX5_comes 7 = .ok (.iload_n 3, 1) := by decide +kernel
theorem dX5_comes_8 : decode cX5_comes 8 = .ok (.ifCond .eq 9, 3) := by decide +kernel
theorem dX5_comes_11 : decode cX5_comes 11 = .ok (.aload_n 0, 1) := by decide +kernel
theorem dX5_comes_12 : decode cX5_comes 12 = .ok (.iload_n 3, 1) := by decide +kernel
theorem dX5_comes_13 : decode cX5_comes 13 = .ok (.invokevirtual 61, 3) := by decide +kernel
theorem dX5_comes_16 : decode cX5_comes 16 = .ok (.ireturn, 1) := by decide +kernel
theorem dX5_comes_17 : decode cX5_comes 17 = .ok (.aload_n 0, 1) := by decide +kernel
theorem dX5_comes_18 : decode cX5_comes 18 = .ok (.getfield 25, 3) := by decide +kernel
theorem dX5_comes_21 : decode cX5_comes 21 = .ok (.aload_n 0, 1) := by decide +kernel
theorem dX5_comes_22 : decode cX5_comes 22 = .ok (.getfield 10, 3) := by decide +kernel
theorem dX5_comes_25 : decode cX5_comes 25 = .ok (.invokevirtual 146, 3) := by decide +kernel
theorem dX5_comes_28 : decode cX5_comes 28 = .ok (.aload_n 0, 1) := by decide +kernel
theorem dX5_comes_29 : decode cX5_comes 29 = .ok (.getfield 25, 3) := by decide +kernel
theorem dX5_comes_32 : decode cX5_comes 32 = .ok (.iload_n 1, 1) := by decide +kernel
theorem dX5_comes_33 : decode cX5_comes 33 = .ok (.iload_n 2, 1) := by decide +kernel
theorem dX5_comes_34 : decode cX5_comes 34 = .ok (.invokevirtual 150, 3) := by decide +kernel
theorem dX5_comes_37 : decode cX5_comes 37 = .ok (.ireturn, 1) := by decide +kernel
theorem dX5_falls_0 : decode cX5_falls 0 = .ok (.aload_n 0, 1) := by decide +kernel
theorem dX5_falls_1 : decode cX5_falls 1 = .ok (.iload_n 1, 1) := by decide +kernel
theorem dX5_falls_2 : decode cX5_falls 2 = .ok (.iload_n 2, 1) := by decide +kernel
theorem dX5_falls_3 : decode cX5_falls 3 = .ok (.invokevirtual 142, 3) := by decide +kernel
theorem dX5_falls_6 : decode cX5_falls 6 = .ok (.istore_n 3, 1) := by decide +kernel
theorem dX5_falls_7 : decode cX5_falls 7 = .ok (.iload_n 3, 1) := by decide +kernel
theorem dX5_falls_8 : decode cX5_falls 8 = .ok (.ifCond .eq 9, 3) := by decide +kernel
theorem dX5_falls_11 : decode cX5_falls 11 = .ok (.aload_n 0, 1) := by decide +kernel
theorem dX5_falls_12 : decode cX5_falls 12 = .ok (.iload_n 3, 1) := by decide +kernel
theorem dX5_falls_13 : decode cX5_falls 13 = .ok (.invokevirtual 61, 3) := by decide +kernel
theorem dX5_falls_16 : decode cX5_falls 16 = .ok (.ireturn, 1) := by decide +kernel
theorem dX5_falls_17 : decode cX5_falls 17 = .ok (.aload_n 0, 1) := by decide +kernel
theorem dX5_falls_18 : decode cX5_falls 18 = .ok (.getfield 25, 3) := by decide +kernel
theorem dX5_falls_21 : decode cX5_falls 21 = .ok (.aload_n 0, 1) := by decide +kernel
theorem dX5_falls_22 : decode cX5_falls 22 = .ok (.getfield 10, 3) := by decide +kernel
theorem dX5_falls_25 : decode cX5_falls 25 = .ok (.invokevirtual 146, 3) := by decide +kernel
theorem dX5_falls_28 : decode cX5_falls 28 = .ok (.aload_n 0, 1) := by decide +kernel
theorem dX5_falls_29 : decode cX5_falls 29 = .ok (.iload_n 1, 1) := by decide +kernel
theorem dX5_falls_30 : decode cX5_falls 30 = .ok (.iload_n 2, 1) := by decide +kernel
theorem dX5_falls_31 : decode cX5_falls 31 = .ok (.invokevirtual 187, 3) := by decide +kernel
theorem dX5_falls_34 : decode cX5_falls 34 = .ok (.ireturn, 1) := by decide +kernel
theorem dX5_heaps_0 : decode cX5_heaps 0 = .ok (.aload_n 0, 1) := by decide +kernel
theorem dX5_heaps_1 : decode cX5_heaps 1 = .ok (.getfield 25, 3) := by decide +kernel
theorem dX5_heaps_4 : decode cX5_heaps 4 = .ok (.aload_n 0, 1) := by decide +kernel
theorem dX5_heaps_5 : decode cX5_heaps 5 = .ok (.getfield 10, 3) := by decide +kernel
theorem dX5_heaps_8 : decode cX5_heaps 8 = .ok (.invokevirtual 146, 3) := by decide +kernel
theorem dX5_heaps_11 : decode cX5_heaps 11 = .ok (.aload_n 0, 1) := by decide +kernel
theorem dX5_heaps_12 : decode cX5_heaps 12 = .ok (.getfield 10, 3) := by decide +kernel
theorem dX5_heaps_15 : decode cX5_heaps 15 = .ok (.invokevirtual 126, 3) := by decide +kernel
theorem dX5_heaps_18 : decode cX5_heaps 18 = .ok (.istore_n 1, 1) := by decide +kernel
theorem dX5_heaps_19 : decode cX5_heaps 19 = .ok (.iconst 0, 1) := by decide +kernel
theorem dX5_heaps_20 : decode cX5_heaps 20 = .ok (.istore_n 2, 1) := by decide +kernel
theorem dX5_heaps_21 : decode cX5_heaps 21 = .ok (.iconst 0, 1) := by decide +kernel
theorem dX5_heaps_22 : decode cX5_heaps 22 = .ok (.istore_n 3, 1) := by decide +kernel
theorem dX5_heaps_23 : decode cX5_heaps 23 = .ok (.iload_n 3, 1) := by decide +kernel
theorem dX5_heaps_24 : decode cX5_heaps 24 = .ok (.bipush 12, 2) := by decide +kernel
theorem dX5_heaps_26 : decode cX5_heaps 26 = .ok (.if_icmp .ge 33, 3) := by decide +kernel
theorem dX5_heaps_29 : decode cX5_heaps 29 = .ok (.iload_n 1, 1) := by decide +kernel
theorem dX5_heaps_30 : decode cX5_heaps 30 = .ok (.iload_n 3, 1) := by decide +kernel
theorem dX5_heaps_31 : decode cX5_heaps 31 = .ok (.invokestatic 160, 3) := by decide +kernel
theorem dX5_heaps_34 : decode cX5_heaps 34 = .ok (.ifCond .eq 19, 3) := by decide +kernel
theorem dX5_heaps_37 : decode cX5_heaps 37 = .ok (.iload_n 1, 1) := by decide +kernel
theorem dX5_heaps_38 : decode cX5_heaps 38 = .ok (.aload_n 0, 1) := by decide +kernel
theorem dX5_heaps_39 : decode cX5_heaps 39 = .ok (.getfield 25, 3) := by decide +kernel
theorem dX5_heaps_42 : decode cX5_heaps 42 = .ok (.iload_n 3, 1) := by decide +kernel
theorem dX5_heaps_43 : decode cX5_heaps 43 = .ok (.invokevirtual 190, 3) := by decide +kernel
theorem dX5_heaps_46 : decode cX5_heaps 46 = .ok (.iconst (-1), 1) := by decide +kernel
theorem dX5_heaps_47 : decode cX5_heaps 47 = .ok (.ixor, 1) := by decide +kernel
theorem dX5_heaps_48 : decode cX5_heaps 48 = .ok (.iand, 1) := by decide +kernel
theorem dX5_heaps_49 : decode cX5_heaps 49 = .ok (.istore_n 1, 1) := by decide +kernel
theorem dX5_heaps_50 : decode cX5_heaps 50 = .ok (.iinc 2 1, 3) := by decide +kernel
theorem dX5_heaps_53 : decode cX5_heaps 53 = .ok (.iinc 3 1, 3) := by decide +kernel
theorem dX5_heaps_56 : decode cX5_heaps 56 = .ok (.goto (-33), 3) := by decide +kernel
theorem dX5_heaps_59 : decode cX5_heaps 59 = .ok (.iload_n 2, 1) := by decide +kernel
theorem dX5_heaps_60 : decode cX5_heaps 60 = .ok (.ireturn, 1) := by decide +kernel
theorem dX5_greatest_0 : decode cX5_greatest 0 = .ok (.aload_n 0, 1) := by decide +kernel
theorem dX5_greatest_1 : decode cX5_greatest 1 = .ok (.getfield 10, 3) := by decide +kernel
theorem dX5_greatest_4 : decode cX5_greatest 4 = .ok (.invokevirtual 126, 3) := by decide +kernel
theorem dX5_greatest_7 : decode cX5_greatest 7 = .ok (.istore_n 1, 1) := by decide +kernel
theorem dX5_greatest_8 : decode cX5_greatest 8 = .ok (.iload_n 1, 1) := by decide +kernel
theorem dX5_greatest_9 : decode cX5_greatest 9 = .ok (.ifCond .ne 10, 3) := by decide +kernel
theorem dX5_greatest_12 : decode cX5_greatest 12 = .ok (.aload_n 0, 1) := by decide +kernel
theorem dX5_greatest_13 : decode cX5_greatest 13 = .ok (.ldc 111, 2) := by decide +kernel
theorem dX5_greatest_15 : decode cX5_greatest 15 = .ok (.invokevirtual 61, 3) := by decide +kernel
theorem dX5_greatest_18 : decode cX5_greatest 18 = .ok (.ireturn, 1) := by decide +kernel
theorem dX5_greatest_19 : decode cX5_greatest 19 = .ok (.aload_n 0, 1) := by decide +kernel
theorem dX5_greatest_20 : decode cX5_greatest 20 = .ok (.getfield 25, 3) := by decide +kernel
theorem dX5_greatest_23 : decode cX5_greatest 23 = .ok (.aload_n 0, 1) := by decide +kernel
theorem dX5_greatest_24 : decode cX5_greatest 24 = .ok (.getfield 10, 3) := by decide +kernel
theorem dX5_greatest_27 : decode cX5_greatest 27 = .ok (.invokevirtual 146, 3) := by decide +kernel
theorem dX5_greatest_30 : decode cX5_greatest 30 = .ok (.iconst 0, 1) := by decide +kernel
theorem dX5_greatest_31 : decode cX5_greatest 31 = .ok (.istore_n 2, 1) := by decide +kernel
theorem dX5_greatest_32 : decode cX5_greatest 32 = .ok (.iconst 0, 1) := by decide +kernel
theorem dX5_greatest_33 : decode cX5_greatest 33 = .ok (.istore_n 3, 1) := by decide +kernel
theorem dX5_greatest_34 : decode cX5_greatest 34 = .ok (.iload_n 3, 1) := by decide +kernel
theorem dX5_greatest_35 : decode cX5_greatest 35 = .ok (.bipush 12, 2) := by decide +kernel
theorem dX5_greatest_37 : decode cX5_greatest 37 = .ok (.if_icmp .ge 33, 3) := by decide +kernel
theorem dX5_greatest_40 : decode cX5_greatest 40 = .ok (.iload_n 1, 1) := by decide +kernel
theorem dX5_greatest_41 : decode cX5_greatest 41 = .ok (.iload_n 3, 1) := by decide +kernel
theorem dX5_greatest_42 : decode cX5_greatest 42 = .ok (.invokestatic 160, 3) := by decide +kernel
theorem dX5_greatest_45 : decode cX5_greatest 45 = .ok (.ifCond .eq 19, 3) := by decide +kernel
theorem dX5_greatest_48 : decode cX5_greatest 48 = .ok (.iload_n 2, 1) := by decide +kernel
theorem dX5_greatest_49 : decode cX5_greatest 49 = .ok (.aload_n 0, 1) := by decide +kernel
theorem dX5_greatest_50 : decode cX5_greatest 50 = .ok (.getfield 25, 3) := by decide +kernel
theorem dX5_greatest_53 : decode cX5_greatest 53 = .ok (.iload_n 3, 1) := by decide +kernel
theorem dX5_greatest_54 : decode cX5_greatest 54 = .ok (.invokevirtual 190, 3) := by decide +kernel
theorem dX5_greatest_57 : decode cX5_greatest 57 = .ok (.invokestatic 130, 3) := by decide +kernel
theorem dX5_greatest_60 : decode cX5_greatest 60 = .ok (.invokestatic 193, 3) := by decide +kernel
theorem dX5_greatest_63 : decode cX5_greatest 63 = .ok (.istore_n 2, 1) := by decide +kernel
theorem dX5_greatest_64 : decode cX5_greatest 64 = .ok (.iinc 3 1, 3) := by decide +kernel
theorem dX5_greatest_67 : decode cX5_greatest 67 = .ok (.goto (-33), 3) := by decide +kernel
theorem dX5_greatest_70 : decode cX5_greatest 70 = .ok (.iload_n 2, 1) := by decide +kernel
theorem dX5_greatest_71 : decode cX5_greatest 71 = .ok (.ireturn, 1) := by decide +kernel
theorem dX5_manner_0 : decode cX5_manner 0 = .ok (.aload_n 0, 1) := by decide +kernel
theorem dX5_manner_1 : decode cX5_manner 1 = .ok (.getfield 10, 3) := by decide +kernel
theorem dX5_manner_4 : decode cX5_manner 4 = .ok (.iload_n 1, 1) := by decide +kernel
theorem dX5_manner_5 : decode cX5_manner 5 = .ok (.invokevirtual 73, 3) := by decide +kernel
theorem dX5_manner_8 : decode cX5_manner 8 = .ok (.ifCond .ne 10, 3) := by decide +kernel
theorem dX5_manner_11 : decode cX5_manner 11 = .ok (.aload_n 0, 1) := by decide +kernel
theorem dX5_manner_12 : decode cX5_manner 12 = .ok (.ldc 60, 2) := by decide +kernel
theorem dX5_manner_14 : decode cX5_manner 14 = .ok (.invokevirtual 61, 3) := by decide +kernel
theorem dX5_manner_17 : decode cX5_manner 17 = .ok (.ireturn, 1) := by decide +kernel
theorem dX5_manner_18 : decode cX5_manner 18 = .ok (.aload_n 0, 1) := by decide +kernel
theorem dX5_manner_19 : decode cX5_manner 19 = .ok (.getfield 10, 3) := by decide +kernel
theorem dX5_manner_22 : decode cX5_manner 22 = .ok (.iload_n 1, 1) := by decide +kernel
theorem dX5_manner_23 : decode cX5_manner 23 = .ok (.invokevirtual 115, 3) := by decide +kernel
theorem dX5_manner_26 : decode cX5_manner 26 = .ok (.ifCond .ne 10, 3) := by decide +kernel
theorem dX5_manner_29 : decode cX5_manner 29 = .ok (.aload_n 0, 1) := by decide +kernel
theorem dX5_manner_30 : decode cX5_manner 30 = .ok (.ldc 118, 2) := by decide +kernel
theorem dX5_manner_32 : decode cX5_manner 32 = .ok (.invokevirtual 61, 3) := by decide +kernel
theorem dX5_manner_35 : decode cX5_manner 35 = .ok (.ireturn, 1) := by decide +kernel
theorem dX5_manner_36 : decode cX5_manner 36 = .ok (.aload_n 0, 1) := by decide +kernel
theorem dX5_manner_37 : decode cX5_manner 37 = .ok (.getfield 25, 3) := by decide +kernel
theorem dX5_manner_40 : decode cX5_manner 40 = .ok (.aload_n 0, 1) := by decide +kernel
theorem dX5_manner_41 : decode cX5_manner 41 = .ok (.getfield 10, 3) := by decide +kernel
theorem dX5_manner_44 : decode cX5_manner 44 = .ok (.invokevirtual 146, 3) := by decide +kernel
theorem dX5_manner_47 : decode cX5_manner 47 = .ok (.iconst 0, 1) := by decide +kernel
theorem dX5_manner_48 : decode cX5_manner 48 = .ok (.istore_n 2, 1) := by decide +kernel
theorem dX5_manner_49 : decode cX5_manner 49 = .ok (.aload_n 0, 1) := by decide +kernel
theorem dX5_manner_50 : decode cX5_manner 50 = .ok (.iload_n 1, 1) := by decide +kernel
theorem dX5_manner_51 : decode cX5_manner 51 = .ok (.iconst 0, 1) := by decide +kernel
theorem dX5_manner_52 : decode cX5_manner 52 = .ok (.invokevirtual 196, 3) := by decide +kernel
theorem dX5_manner_55 : decode cX5_manner 55 = .ok (.istore_n 3, 1) := by decide +kernel
theorem dX5_manner_56 : decode cX5_manner 56 = .ok (.iconst 1, 1) := by decide +kernel
theorem dX5_manner_57 : decode cX5_manner 57 = .ok (.istore 4, 2) := by decide +kernel
theorem dX5_manner_59 : decode cX5_manner 59 = .ok (.iload 4, 2) := by decide +kernel
theorem dX5_manner_61 : decode cX5_manner 61 = .ok (.iconst 2, 1) := by decide +kernel
theorem dX5_manner_62 : decode cX5_manner 62 = .ok (.if_icmp .gt 59, 3) := by decide +kernel
theorem dX5_manner_65 : decode cX5_manner 65 = .ok (.iload 4, 2) := by decide +kernel
theorem dX5_manner_67 : decode cX5_manner 67 = .ok (.iconst 2, 1) := by decide +kernel
theorem dX5_manner_68 : decode cX5_manner 68 = .ok (.if_icmp .ne 14, 3) := by decide +kernel
theorem dX5_manner_71 : decode cX5_manner 71 = .ok (.aload_n 0, 1) := by decide +kernel
theorem dX5_manner_72 : decode cX5_manner 72 = .ok (.getfield 10, 3) := by decide +kernel
theorem dX5_manner_75 : decode cX5_manner 75 = .ok (.iload_n 1, 1) := by decide +kernel
theorem dX5_manner_76 : decode cX5_manner 76 = .ok (.invokevirtual 199, 3) := by decide +kernel
theorem dX5_manner_79 : decode cX5_manner 79 = .ok (.ifCond .eq 7, 3) := by decide +kernel
theorem dX5_manner_82 : decode cX5_manner 82 = .ok (.iconst 1, 1) := by decide +kernel
theorem dX5_manner_83 : decode cX5_manner 83 = .ok (.goto 4, 3) := by decide +kernel
theorem dX5_manner_86 : decode cX5_manner 86 = .ok (.iconst 0, 1) := by decide +kernel
theorem dX5_manner_87 : decode cX5_manner 87 = .ok (.istore 5, 2) := by decide +kernel
theorem dX5_manner_89 : decode cX5_manner 89 = .ok (.aload_n 0, 1) := by decide +kernel
theorem dX5_manner_90 : decode cX5_manner 90 = .ok (.iload_n 1, 1) := by decide +kernel
theorem dX5_manner_91 : decode cX5_manner 91 = .ok (.iload 4, 2) := by decide +kernel
theorem dX5_manner_93 : decode cX5_manner 93 = .ok (.invokevirtual 196, 3) := by decide +kernel
theorem dX5_manner_96 : decode cX5_manner 96 = .ok (.istore 6, 2) := by decide +kernel
theorem dX5_manner_98 : decode cX5_manner 98 = .ok (.iload 5, 2) := by decide +kernel
theorem dX5_manner_100 : decode cX5_manner 100 = .ok (.ifCond .eq 15, 3) := by decide +kernel
theorem dX5_manner_103 : decode cX5_manner 103 = .ok (.iload 6, 2) := by decide +kernel
theorem dX5_manner_105 : decode cX5_manner 105 = .ok (.iload_n 3, 1) := by decide +kernel
theorem dX5_manner_106 : decode cX5_manner 106 = .ok (.if_icmp .ge 9, 3) := by decide +kernel
theorem dX5_manner_109 : decode cX5_manner 109 = .ok (.iload 4, 2) := by decide +kernel
theorem dX5_manner_111 : decode cX5_manner 111 = .ok (.istore_n 2, 1) := by decide +kernel
theorem dX5_manner_112 : decode cX5_manner 112 = .ok (.iload 6, 2) := by decide +kernel
theorem dX5_manner_114 : decode cX5_manner 114 = .ok (.istore_n 3, 1) := by decide +kernel
theorem dX5_manner_115 : decode cX5_manner 115 = .ok (.iinc 4 1, 3) := by decide +kernel
theorem dX5_manner_118 : decode cX5_manner 118 = .ok (.goto (-59), 3) := by decide +kernel
theorem dX5_manner_121 : decode cX5_manner 121 = .ok (.iload_n 2, 1) := by decide +kernel
theorem dX5_manner_122 : decode cX5_manner 122 = .ok (.ireturn, 1) := by decide +kernel
theorem dX5_first_0 : decode cX5_first 0 = .ok (.aload_n 0, 1) := by decide +kernel
theorem dX5_first_1 : decode cX5_first 1 = .ok (.getfield 10, 3) := by decide +kernel
theorem dX5_first_4 : decode cX5_first 4 = .ok (.invokevirtual 126, 3) := by decide +kernel
theorem dX5_first_7 : decode cX5_first 7 = .ok (.istore_n 1, 1) := by decide +kernel
theorem dX5_first_8 : decode cX5_first 8 = .ok (.iload_n 1, 1) := by decide +kernel
theorem dX5_first_9 : decode cX5_first 9 = .ok (.ifCond .ne 10, 3) := by decide +kernel
theorem dX5_first_12 : decode cX5_first 12 = .ok (.aload_n 0, 1) := by decide +kernel
theorem dX5_first_13 : decode cX5_first 13 = .ok (.ldc 111, 2) := by decide +kernel
theorem dX5_first_15 : decode cX5_first 15 = .ok (.invokevirtual 61, 3) := by decide +kernel
theorem dX5_first_18 : decode cX5_first 18 = .ok (.ireturn, 1) := by decide +kernel
theorem dX5_first_19 : decode cX5_first 19 = .ok (.aload_n 0, 1) := by decide +kernel
theorem dX5_first_20 : decode cX5_first 20 = .ok (.getfield 25, 3) := by decide +kernel
theorem dX5_first_23 : decode cX5_first 23 = .ok (.aload_n 0, 1) := by decide +kernel
theorem dX5_first_24 : decode cX5_first 24 = .ok (.getfield 10, 3) := by decide +kernel
theorem dX5_first_27 : decode cX5_first 27 = .ok (.invokevirtual 146, 3) := by decide +kernel
theorem dX5_first_30 : decode cX5_first 30 = .ok (.iconst 0, 1) := by decide +kernel
theorem dX5_first_31 : decode cX5_first 31 = .ok (.istore_n 2, 1) := by decide +kernel
theorem dX5_first_32 : decode cX5_first 32 = .ok (.bipush 13, 2) := by decide +kernel
theorem dX5_first_34 : decode cX5_first 34 = .ok (.istore_n 3, 1) := by decide +kernel
theorem dX5_first_35 : decode cX5_first 35 = .ok (.iconst 0, 1) := by decide +kernel
theorem dX5_first_36 : decode cX5_first 36 = .ok (.istore 4, 2) := by decide +kernel
theorem dX5_first_38 : decode cX5_first 38 = .ok (.iload 4, 2) := by decide +kernel
theorem dX5_first_40 : decode cX5_first 40 = .ok (.bipush 12, 2) := by decide +kernel
theorem dX5_first_42 : decode cX5_first 42 = .ok (.if_icmp .ge 39, 3) := by decide +kernel
theorem dX5_first_45 : decode cX5_first 45 = .ok (.aload_n 0, 1) := by decide +kernel
theorem dX5_first_46 : decode cX5_first 46 = .ok (.iload 4, 2) := by decide +kernel
theorem dX5_first_48 : decode cX5_first 48 = .ok (.iconst 0, 1) := by decide +kernel
theorem dX5_first_49 : decode cX5_first 49 = .ok (.invokevirtual 187, 3) := by decide +kernel
theorem dX5_first_52 : decode cX5_first 52 = .ok (.istore 5, 2) := by decide +kernel
theorem dX5_first_54 : decode cX5_first 54 = .ok (.iload_n 1, 1) := by decide +kernel
theorem dX5_first_55 : decode cX5_first 55 = .ok (.iload 4, 2) := by decide +kernel
theorem dX5_first_57 : decode cX5_first 57 = .ok (.invokestatic 160, 3) := by decide +kernel
theorem dX5_first_60 : decode cX5_first 60 = .ok (.ifCond .eq 15, 3) := by decide +kernel
theorem dX5_first_63 : decode cX5_first 63 = .ok (.iload 5, 2) := by decide +kernel
theorem dX5_first_65 : decode cX5_first 65 = .ok (.iload_n 3, 1) := by decide +kernel
theorem dX5_first_66 : decode cX5_first 66 = .ok (.if_icmp .ge 9, 3) := by decide +kernel
theorem dX5_first_69 : decode cX5_first 69 = .ok (.iload 4, 2) := by decide +kernel
theorem dX5_first_71 : decode cX5_first 71 = .ok (.istore_n 2, 1) := by decide +kernel
theorem dX5_first_72 : decode cX5_first 72 = .ok (.iload 5, 2) := by decide +kernel
theorem dX5_first_74 : decode cX5_first 74 = .ok (.istore_n 3, 1) := by decide +kernel
theorem dX5_first_75 : decode cX5_first 75 = .ok (.iinc 4 1, 3) := by decide +kernel
theorem dX5_first_78 : decode cX5_first 78 = .ok (.goto (-40), 3) := by decide +kernel
theorem dX5_first_81 : decode cX5_first 81 = .ok (.iload_n 2, 1) := by decide +kernel
theorem dX5_first_82 : decode cX5_first 82 = .ok (.ireturn, 1) := by decide +kernel
theorem dX5_spot_0 : decode cX5_spot 0 = .ok (.aload_n 0, 1) := by decide +kernel
theorem dX5_spot_1 : decode cX5_spot 1 = .ok (.getfield 10, 3) := by decide +kernel
theorem dX5_spot_4 : decode cX5_spot 4 = .ok (.iload_n 1, 1) := by decide +kernel
theorem dX5_spot_5 : decode cX5_spot 5 = .ok (.invokevirtual 73, 3) := by decide +kernel
theorem dX5_spot_8 : decode cX5_spot 8 = .ok (.ifCond .ne 10, 3) := by decide +kernel
theorem dX5_spot_11 : decode cX5_spot 11 = .ok (.aload_n 0, 1) := by decide +kernel
theorem dX5_spot_12 : decode cX5_spot 12 = .ok (.ldc 60, 2) := by decide +kernel
theorem dX5_spot_14 : decode cX5_spot 14 = .ok (.invokevirtual 61, 3) := by decide +kernel
theorem dX5_spot_17 : decode cX5_spot 17 = .ok (.ireturn, 1) := by decide +kernel
theorem dX5_spot_18 : decode cX5_spot 18 = .ok (.aload_n 0, 1) := by decide +kernel
theorem dX5_spot_19 : decode cX5_spot 19 = .ok (.getfield 10, 3) := by decide +kernel
theorem dX5_spot_22 : decode cX5_spot 22 = .ok (.iload_n 1, 1) := by decide +kernel
theorem dX5_spot_23 : decode cX5_spot 23 = .ok (.invokevirtual 115, 3) := by decide +kernel
theorem dX5_spot_26 : decode cX5_spot 26 = .ok (.ifCond .ne 10, 3) := by decide +kernel
theorem dX5_spot_29 : decode cX5_spot 29 = .ok (.aload_n 0, 1) := by decide +kernel
theorem dX5_spot_30 : decode cX5_spot 30 = .ok (.ldc 118, 2) := by decide +kernel
theorem dX5_spot_32 : decode cX5_spot 32 = .ok (.invokevirtual 61, 3) := by decide +kernel
theorem dX5_spot_35 : decode cX5_spot 35 = .ok (.ireturn, 1) := by decide +kernel
theorem dX5_spot_36 : decode cX5_spot 36 = .ok (.aload_n 0, 1) := by decide +kernel
theorem dX5_spot_37 : decode cX5_spot 37 = .ok (.getfield 10, 3) := by decide +kernel
theorem dX5_spot_40 : decode cX5_spot 40 = .ok (.getfield 79, 3) := by decide +kernel
theorem dX5_spot_43 : decode cX5_spot 43 = .ok (.iload_n 1, 1) := by decide +kernel
theorem dX5_spot_44 : decode cX5_spot 44 = .ok (.iaload, 1) := by decide +kernel
theorem dX5_spot_45 : decode cX5_spot 45 = .ok (.istore_n 2, 1) := by decide +kernel
theorem dX5_spot_46 : decode cX5_spot 46 = .ok (.iconst 0, 1) := by decide +kernel
theorem dX5_spot_47 : decode cX5_spot 47 = .ok (.istore_n 3, 1) := by decide +kernel
theorem dX5_spot_48 : decode cX5_spot 48 = .ok (.iload_n 3, 1) := by decide +kernel
theorem dX5_spot_49 : decode cX5_spot 49 = .ok (.bipush 24, 2) := by decide +kernel
theorem dX5_spot_51 : decode cX5_spot 51 = .ok (.if_icmp .ge 45, 3) := by decide +kernel
theorem dX5_spot_54 : decode cX5_spot 54 = .ok (.aload_n 0, 1) := by decide +kernel
theorem dX5_spot_55 : decode cX5_spot 55 = .ok (.getfield 10, 3) := by decide +kernel
theorem dX5_spot_58 : decode cX5_spot 58 = .ok (.iload_n 1, 1) := by decide +kernel
theorem dX5_spot_59 : decode cX5_spot 59 = .ok (.iload_n 2, 1) := by decide +kernel
theorem dX5_spot_60 : decode cX5_spot 60 = .ok (.iload_n 3, 1) := by decide +kernel
theorem dX5_spot_61 : decode cX5_spot 61 = .ok (.isub, 1) := by decide +kernel
theorem dX5_spot_62 : decode cX5_spot 62 = .ok (.invokevirtual 202, 3) := by decide +kernel
theorem dX5_spot_65 : decode cX5_spot 65 = .ok (.ifCond .eq 7, 3) := by decide +kernel
theorem dX5_spot_68 : decode cX5_spot 68 = .ok (.iload_n 2, 1) := by decide +kernel
theorem dX5_spot_69 : decode cX5_spot 69 = .ok (.iload_n 3, 1) := by decide +kernel
theorem dX5_spot_70 : decode cX5_spot 70 = .ok (.isub, 1) := by decide +kernel
theorem dX5_spot_71 : decode cX5_spot 71 = .ok (.ireturn, 1) := by decide +kernel
theorem dX5_spot_72 : decode cX5_spot 72 = .ok (.aload_n 0, 1) := by decide +kernel
theorem dX5_spot_73 : decode cX5_spot 73 = .ok (.getfield 10, 3) := by decide +kernel
theorem dX5_spot_76 : decode cX5_spot 76 = .ok (.iload_n 1, 1) := by decide +kernel
theorem dX5_spot_77 : decode cX5_spot 77 = .ok (.iload_n 2, 1) := by decide +kernel
theorem dX5_spot_78 : decode cX5_spot 78 = .ok (.iload_n 3, 1) := by decide +kernel
theorem dX5_spot_79 : decode cX5_spot 79 = .ok (.iadd, 1) := by decide +kernel
theorem dX5_spot_80 : decode cX5_spot 80 = .ok (.invokevirtual 202, 3) := by decide +kernel
theorem dX5_spot_83 : decode cX5_spot 83 = .ok (.ifCond .eq 7, 3) := by decide +kernel
theorem dX5_spot_86 : decode cX5_spot 86 = .ok (.iload_n 2, 1) := by decide +kernel
theorem dX5_spot_87 : decode cX5_spot 87 = .ok (.iload_n 3, 1) := by decide +kernel
theorem dX5_spot_88 : decode cX5_spot 88 = .ok (.iadd, 1) := by decide +kernel
theorem dX5_spot_89 : decode cX5_spot 89 = .ok (.ireturn, 1) := by decide +kernel
theorem dX5_spot_90 : decode cX5_spot 90 = .ok (.iinc 3 1, 3) := by decide +kernel
theorem dX5_spot_93 : decode cX5_spot 93 = .ok (.goto (-45), 3) := by decide +kernel
theorem dX5_spot_96 : decode cX5_spot 96 = .ok (.aload_n 0, 1) := by decide +kernel
theorem dX5_spot_97 : decode cX5_spot 97 = .ok (.ldc 111, 2) := by decide +kernel
theorem dX5_spot_99 : decode cX5_spot 99 = .ok (.invokevirtual 61, 3) := by decide +kernel
theorem dX5_spot_102 : decode cX5_spot 102 = .ok (.ireturn, 1) := by decide +kernel
theorem dX5_facing_0 : decode cX5_facing 0 = .ok (.aload_n 0, 1) := by decide +kernel
theorem dX5_facing_1 : decode cX5_facing 1 = .ok (.getfield 25, 3) := by decide +kernel
theorem dX5_facing_4 : decode cX5_facing 4 = .ok (.aload_n 0, 1) := by decide +kernel
theorem dX5_facing_5 : decode cX5_facing 5 = .ok (.getfield 10, 3) := by decide +kernel
theorem dX5_facing_8 : decode cX5_facing 8 = .ok (.invokevirtual 146, 3) := by decide +kernel
theorem dX5_facing_11 : decode cX5_facing 11 = .ok (.iconst 0, 1) := by decide +kernel
theorem dX5_facing_12 : decode cX5_facing 12 = .ok (.istore_n 1, 1) := by decide +kernel
theorem dX5_facing_13 : decode cX5_facing 13 = .ok (.iconst 0, 1) := by decide +kernel
theorem dX5_facing_14 : decode cX5_facing 14 = .ok (.istore_n 2, 1) := by decide +kernel
theorem dX5_facing_15 : decode cX5_facing 15 = .ok (.iload_n 2, 1) := by decide +kernel
theorem dX5_facing_16 : decode cX5_facing 16 = .ok (.aload_n 0, 1) := by decide +kernel
theorem dX5_facing_17 : decode cX5_facing 17 = .ok (.getfield 10, 3) := by decide +kernel
theorem dX5_facing_20 : decode cX5_facing 20 = .ok (.getfield 65, 3) := by decide +kernel
theorem dX5_facing_23 : decode cX5_facing 23 = .ok (.if_icmp .ge 18, 3) := by decide +kernel
theorem dX5_facing_26 : decode cX5_facing 26 = .ok (.aload_n 0, 1) := by decide +kernel
theorem dX5_facing_27 : decode cX5_facing 27 = .ok (.iload_n 1, 1) := by decide +kernel
theorem dX5_facing_28 : decode cX5_facing 28 = .ok (.iconst 1, 1) := by decide +kernel
theorem dX5_facing_29 : decode cX5_facing 29 = .ok (.iload_n 2, 1) := by decide +kernel
theorem dX5_facing_30 : decode cX5_facing 30 = .ok (.ishl, 1) := by decide +kernel
theorem dX5_facing_31 : decode cX5_facing 31 = .ok (.invokevirtual 205, 3) := by decide +kernel
theorem dX5_facing_34 : decode cX5_facing 34 = .ok (.istore_n 1, 1) := by decide +kernel
theorem dX5_facing_35 : decode cX5_facing 35 = .ok (.iinc 2 1, 3) := by decide +kernel
theorem dX5_facing_38 : decode cX5_facing 38 = .ok (.goto (-23), 3) := by decide +kernel
theorem dX5_facing_41 : decode cX5_facing 41 = .ok (.iconst 1, 1) := by decide +kernel
theorem dX5_facing_42 : decode cX5_facing 42 = .ok (.istore_n 2, 1) := by decide +kernel
theorem dX5_facing_43 : decode cX5_facing 43 = .ok (.iload_n 2, 1) := by decide +kernel
theorem dX5_facing_44 : decode cX5_facing 44 = .ok (.aload_n 0, 1) := by decide +kernel
theorem dX5_facing_45 : decode cX5_facing 45 = .ok (.getfield 10, 3) := by decide +kernel
theorem dX5_facing_48 : decode cX5_facing 48 = .ok (.getfield 65, 3) := by decide +kernel
theorem dX5_facing_51 : decode cX5_facing 51 = .ok (.if_icmp .ge 35, 3) := by decide +kernel
theorem dX5_facing_54 : decode cX5_facing 54 = .ok (.iconst 0, 1) := by decide +kernel
theorem dX5_facing_55 : decode cX5_facing 55 = .ok (.istore_n 3, 1) := by decide +kernel
theorem dX5_facing_56 : decode cX5_facing 56 = .ok (.iload_n 3, 1) := by decide +kernel
theorem dX5_facing_57 : decode cX5_facing 57 = .ok (.iload_n 2, 1) := by decide +kernel
theorem dX5_facing_58 : decode cX5_facing 58 = .ok (.if_icmp .ge 22, 3) := by decide +kernel
theorem dX5_facing_61 : decode cX5_facing 61 = .ok (.aload_n 0, 1) := by decide +kernel
theorem dX5_facing_62 : decode cX5_facing 62 = .ok (.iload_n 1, 1) := by decide +kernel
theorem dX5_facing_63 : decode cX5_facing 63 = .ok (.iconst 1, 1) := by decide +kernel
theorem dX5_facing_64 : decode cX5_facing 64 = .ok (.iload_n 2, 1) := by decide +kernel
theorem dX5_facing_65 : decode cX5_facing 65 = .ok (.ishl, 1) := by decide +kernel
theorem dX5_facing_66 : decode cX5_facing 66 = .ok (.iconst 1, 1) := by decide +kernel
theorem dX5_facing_67 : decode cX5_facing 67 = .ok (.iload_n 3, 1) := by decide +kernel
theorem dX5_facing_68 : decode cX5_facing 68 = .ok (.ishl, 1) := by decide +kernel
theorem dX5_facing_69 : decode cX5_facing 69 = .ok (.ior, 1) := by decide +kernel
theorem dX5_facing_70 : decode cX5_facing 70 = .ok (.invokevirtual 205, 3) := by decide +kernel
theorem dX5_facing_73 : decode cX5_facing 73 = .ok (.istore_n 1, 1) := by decide +kernel
theorem dX5_facing_74 : decode cX5_facing 74 = .ok (.iinc 3 1, 3) := by decide +kernel
theorem dX5_facing_77 : decode cX5_facing 77 = .ok (.goto (-21), 3) := by decide +kernel
theorem dX5_facing_80 : decode cX5_facing 80 = .ok (.iinc 2 1, 3) := by decide +kernel
theorem dX5_facing_83 : decode cX5_facing 83 = .ok (.goto (-40), 3) := by decide +kernel
theorem dX5_facing_86 : decode cX5_facing 86 = .ok (.iload_n 1, 1) := by decide +kernel
theorem dX5_facing_87 : decode cX5_facing 87 = .ok (.ireturn, 1) := by decide +kernel
theorem dX5_clears_0 : decode cX5_clears 0 = .ok (.iload_n 1, 1) := by decide +kernel
theorem dX5_clears_1 : decode cX5_clears 1 = .ok (.ifCond .eq 15, 3) := by decide +kernel
theorem dX5_clears_4 : decode cX5_clears 4 = .ok (.iload_n 1, 1) := by decide +kernel
theorem dX5_clears_5 : decode cX5_clears 5 = .ok (.iconst 1, 1) := by decide +kernel
theorem dX5_clears_6 : decode cX5_clears 6 = .ok (.if_icmp .eq 10, 3) := by decide +kernel
theorem dX5_clears_9 : decode cX5_clears 9 = .ok (.aload_n 0, 1) := by decide +kernel
theorem dX5_clears_10 : decode cX5_clears 10 = .ok (.ldc 60, 2) := by decide +kernel
theorem dX5_clears_12 : decode cX5_clears 12 = .ok (.invokevirtual 61, 3) := by decide +kernel
theorem dX5_clears_15 : decode cX5_clears 15 = .ok (.ireturn, 1) := by decide +kernel
theorem dX5_clears_16 : decode cX5_clears 16 = .ok (.aload_n 0, 1) := by decide +kernel
theorem dX5_clears_17 : decode cX5_clears 17 = .ok (.getfield 25, 3) := by decide +kernel
theorem dX5_clears_20 : decode cX5_clears 20 = .ok (.aload_n 0, 1) := by decide +kernel
theorem dX5_clears_21 : decode cX5_clears 21 = .ok (.getfield 10, 3) := by decide +kernel
theorem dX5_clears_24 : decode cX5_clears 24 = .ok (.invokevirtual 146, 3) := by decide +kernel
theorem dX5_clears_27 : decode cX5_clears 27 = .ok (.aload_n 0, 1) := by decide +kernel
theorem dX5_clears_28 : decode cX5_clears 28 = .ok (.getfield 10, 3) := by decide +kernel
theorem dX5_clears_31 : decode cX5_clears 31 = .ok (.invokevirtual 126, 3) := by decide +kernel
theorem dX5_clears_34 : decode cX5_clears 34 = .ok (.istore_n 2, 1) := by decide +kernel
theorem dX5_clears_35 : decode cX5_clears 35 = .ok (.iconst 0, 1) := by decide +kernel
theorem dX5_clears_36 : decode cX5_clears 36 = .ok (.istore_n 3, 1) := by decide +kernel
theorem dX5_clears_37 : decode cX5_clears 37 = .ok (.iconst 0, 1) := by decide +kernel
theorem dX5_clears_38 : decode cX5_clears 38 = .ok (.istore 4, 2) := by decide +kernel
theorem dX5_clears_40 : decode cX5_clears 40 = .ok (.iload 4, 2) := by decide +kernel
theorem dX5_clears_42 : decode cX5_clears 42 = .ok (.bipush 12, 2) := by decide +kernel
theorem dX5_clears_44 : decode cX5_clears 44 = .ok (.if_icmp .ge 57, 3) := by decide +kernel
theorem dX5_clears_47 : decode cX5_clears 47 = .ok (.iload_n 2, 1) := by decide +kernel
theorem dX5_clears_48 : decode cX5_clears 48 = .ok (.iload 4, 2) := by decide +kernel
theorem dX5_clears_50 : decode cX5_clears 50 = .ok (.invokestatic 160, 3) := by decide +kernel
theorem dX5_clears_53 : decode cX5_clears 53 = .ok (.ifCond .eq 42, 3) := by decide +kernel
theorem dX5_clears_56 : decode cX5_clears 56 = .ok (.aload_n 0, 1) := by decide +kernel
theorem dX5_clears_57 : decode cX5_clears 57 = .ok (.getfield 25, 3) := by decide +kernel
theorem dX5_clears_60 : decode cX5_clears 60 = .ok (.iload 4, 2) := by decide +kernel
theorem dX5_clears_62 : decode cX5_clears 62 = .ok (.iload_n 1, 1) := by decide +kernel
theorem dX5_clears_63 : decode cX5_clears 63 = .ok (.invokevirtual 150, 3) := by decide +kernel
theorem dX5_clears_66 : decode cX5_clears 66 = .ok (.iload_n 2, 1) := by decide +kernel
theorem dX5_clears_67 : decode cX5_clears 67 = .ok (.iand, 1) := by decide +kernel
theorem dX5_clears_68 : decode cX5_clears 68 = .ok (.istore 5, 2) := by decide +kernel
theorem dX5_clears_70 : decode cX5_clears 70 = .ok (.iload_n 3, 1) := by decide +kernel
theorem dX5_clears_71 : decode cX5_clears 71 = .ok (.aload_n 0, 1) := by decide +kernel
theorem dX5_clears_72 : decode cX5_clears 72 = .ok (.getfield 10, 3) := by decide +kernel
theorem dX5_clears_75 : decode cX5_clears 75 = .ok (.iload 5, 2) := by decide +kernel
theorem dX5_clears_77 : decode cX5_clears 77 = .ok (.iload 4, 2) := by decide +kernel
theorem dX5_clears_79 : decode cX5_clears 79 = .ok (.iload_n 1, 1) := by decide +kernel
theorem dX5_clears_80 : decode cX5_clears 80 = .ok (.invokevirtual 153, 3) := by decide +kernel
theorem dX5_clears_83 : decode cX5_clears 83 = .ok (.invokestatic 130, 3) := by decide +kernel
theorem dX5_clears_86 : decode cX5_clears 86 = .ok (.iadd, 1) := by decide +kernel
theorem dX5_clears_87 : decode cX5_clears 87 = .ok (.istore_n 3, 1) := by decide +kernel
theorem dX5_clears_88 : decode cX5_clears 88 = .ok (.iload_n 2, 1) := by decide +kernel
theorem dX5_clears_89 : decode cX5_clears 89 = .ok (.iload 5, 2) := by decide +kernel
theorem dX5_clears_91 : decode cX5_clears 91 = .ok (.iconst (-1), 1) := by decide +kernel
theorem dX5_clears_92 : decode cX5_clears 92 = .ok (.ixor, 1) := by decide +kernel
theorem dX5_clears_93 : decode cX5_clears 93 = .ok (.iand, 1) := by decide +kernel
theorem dX5_clears_94 : decode cX5_clears 94 = .ok (.istore_n 2, 1) := by decide +kernel
theorem dX5_clears_95 : decode cX5_clears 95 = .ok (.iinc 4 1, 3) := by decide +kernel
theorem dX5_clears_98 : decode cX5_clears 98 = .ok (.goto (-58), 3) := by decide +kernel
theorem dX5_clears_101 : decode cX5_clears 101 = .ok (.iload_n 3, 1) := by decide +kernel
theorem dX5_clears_102 : decode cX5_clears 102 = .ok (.ireturn, 1) := by decide +kernel
theorem dX5_untangle_0 : decode cX5_untangle 0 = .ok (.aload_n 0, 1) := by decide +kernel
theorem dX5_untangle_1 : decode cX5_untangle 1 = .ok (.getfield 25, 3) := by decide +kernel
theorem dX5_untangle_4 : decode cX5_untangle 4 = .ok (.aload_n 0, 1) := by decide +kernel
theorem dX5_untangle_5 : decode cX5_untangle 5 = .ok (.getfield 10, 3) := by decide +kernel
theorem dX5_untangle_8 : decode cX5_untangle 8 = .ok (.invokevirtual 146, 3) := by decide +kernel
theorem dX5_untangle_11 : decode cX5_untangle 11 = .ok (.aload_n 0, 1) := by decide +kernel
theorem dX5_untangle_12 : decode cX5_untangle 12 = .ok (.getfield 25, 3) := by decide +kernel
theorem dX5_untangle_15 : decode cX5_untangle 15 = .ok (.invokevirtual 208, 3) := by decide +kernel
theorem dX5_untangle_18 : decode cX5_untangle 18 = .ok (.ireturn, 1) := by decide +kernel
theorem dX5_saves_0 : decode cX5_saves 0 = .ok (.aload_n 0, 1) := by decide +kernel
theorem dX5_saves_1 : decode cX5_saves 1 = .ok (.getfield 25, 3) := by decide +kernel
theorem dX5_saves_4 : decode cX5_saves 4 = .ok (.aload_n 0, 1) := by decide +kernel
theorem dX5_saves_5 : decode cX5_saves 5 = .ok (.getfield 10, 3) := by decide +kernel
theorem dX5_saves_8 : decode cX5_saves 8 = .ok (.invokevirtual 146, 3) := by decide +kernel
theorem dX5_saves_11 : decode cX5_saves 11 = .ok (.aload_n 0, 1) := by decide +kernel
theorem dX5_saves_12 : decode cX5_saves 12 = .ok (.getfield 25, 3) := by decide +kernel
theorem dX5_saves_15 : decode cX5_saves 15 = .ok (.invokevirtual 208, 3) := by decide +kernel
theorem dX5_saves_18 : decode cX5_saves 18 = .ok (.invokestatic 130, 3) := by decide +kernel
theorem dX5_saves_21 : decode cX5_saves 21 = .ok (.istore_n 1, 1) := by decide +kernel
theorem dX5_saves_22 : decode cX5_saves 22 = .ok (.aload_n 0, 1) := by decide +kernel
theorem dX5_saves_23 : decode cX5_saves 23 = .ok (.getfield 10, 3) := by decide +kernel
theorem dX5_saves_26 : decode cX5_saves 26 = .ok (.getfield 102, 3) := by decide +kernel
theorem dX5_saves_29 : decode cX5_saves 29 = .ok (.aload_n 0, 1) := by decide +kernel
theorem dX5_saves_30 : decode cX5_saves 30 = .ok (.getfield 25, 3) := by decide +kernel
theorem dX5_saves_33 : decode cX5_saves 33 = .ok (.invokevirtual 211, 3) := by decide +kernel
theorem dX5_saves_36 : decode cX5_saves 36 = .ok (.invokestatic 130, 3) := by decide +kernel
theorem dX5_saves_39 : decode cX5_saves 39 = .ok (.imul, 1) := by decide +kernel
theorem dX5_saves_40 : decode cX5_saves 40 = .ok (.iconst 2, 1) := by decide +kernel
theorem dX5_saves_41 : decode cX5_saves 41 = .ok (.iload_n 1, 1) := by decide +kernel
theorem dX5_saves_42 : decode cX5_saves 42 = .ok (.imul, 1) := by decide +kernel
theorem dX5_saves_43 : decode cX5_saves 43 = .ok (.isub, 1) := by decide +kernel
theorem dX5_saves_44 : decode cX5_saves 44 = .ok (.ireturn, 1) := by decide +kernel
theorem dX5_feels_0 : decode cX5_feels 0 = .ok (.iload_n 1, 1) := by decide +kernel
theorem dX5_feels_1 : decode cX5_feels 1 = .ok (.ifCond .lt 9, 3) := by decide +kernel
theorem dX5_feels_4 : decode cX5_feels 4 = .ok (.iload_n 1, 1) := by decide +kernel
theorem dX5_feels_5 : decode cX5_feels 5 = .ok (.bipush 15, 2) := by decide +kernel
theorem dX5_feels_7 : decode cX5_feels 7 = .ok (.if_icmp .le 10, 3) := by decide +kernel
theorem dX5_feels_10 : decode cX5_feels 10 = .ok (.aload_n 0, 1) := by decide +kernel
theorem dX5_feels_11 : decode cX5_feels 11 = .ok (.ldc 60, 2) := by decide +kernel
theorem dX5_feels_13 : decode cX5_feels 13 = .ok (.invokevirtual 61, 3) := by decide +kernel
theorem dX5_feels_16 : decode cX5_feels 16 = .ok (.ireturn, 1) := by decide +kernel
theorem dX5_feels_17 : decode cX5_feels 17 = .ok (.aload_n 0, 1) := by decide +kernel
theorem dX5_feels_18 : decode cX5_feels 18 = .ok (.getfield 10, 3) := by decide +kernel
theorem dX5_feels_21 : decode cX5_feels 21 = .ok (.invokevirtual 126, 3) := by decide +kernel
theorem dX5_feels_24 : decode cX5_feels 24 = .ok (.ifCond .ne 10, 3) := by decide +kernel
theorem dX5_feels_27 : decode cX5_feels 27 = .ok (.aload_n 0, 1) := by decide +kernel
theorem dX5_feels_28 : decode cX5_feels 28 = .ok (.ldc 111, 2) := by decide +kernel
theorem dX5_feels_30 : decode cX5_feels 30 = .ok (.invokevirtual 61, 3) := by decide +kernel
theorem dX5_feels_33 : decode cX5_feels 33 = .ok (.ireturn, 1) := by decide +kernel
theorem dX5_feels_34 : decode cX5_feels 34 = .ok (.iconst 0, 1) := by decide +kernel
theorem dX5_feels_35 : decode cX5_feels 35 = .ok (.istore_n 2, 1) := by decide +kernel
theorem dX5_feels_36 : decode cX5_feels 36 = .ok (.iconst 5, 1) := by decide +kernel
theorem dX5_feels_37 : decode cX5_feels 37 = .ok (.istore_n 3, 1) := by decide +kernel
theorem dX5_feels_38 : decode cX5_feels 38 = .ok (.iconst 0, 1) := by decide +kernel
theorem dX5_feels_39 : decode cX5_feels 39 = .ok (.istore 4, 2) := by decide +kernel
theorem dX5_feels_41 : decode cX5_feels 41 = .ok (.iload 4, 2) := by decide +kernel
theorem dX5_feels_43 : decode cX5_feels 43 = .ok (.aload_n 0, 1) := by decide +kernel
theorem dX5_feels_44 : decode cX5_feels 44 = .ok (.getfield 10, 3) := by decide +kernel
theorem dX5_feels_47 : decode cX5_feels 47 = .ok (.getfield 65, 3) := by decide +kernel
theorem dX5_feels_50 : decode cX5_feels 50 = .ok (.if_icmp .ge 80, 3) := by decide +kernel
theorem dX5_feels_53 : decode cX5_feels 53 = .ok (.aload_n 0, 1) := by decide +kernel
theorem dX5_feels_54 : decode cX5_feels 54 = .ok (.getfield 10, 3) := by decide +kernel
theorem dX5_feels_57 : decode cX5_feels 57 = .ok (.getfield 88, 3) := by decide +kernel
theorem dX5_feels_60 : decode cX5_feels 60 = .ok (.iload 4, 2) := by decide +kernel
theorem dX5_feels_62 : decode cX5_feels 62 = .ok (.iaload, 1) := by decide +kernel
theorem dX5_feels_63 : decode cX5_feels 63 = .ok (.iload_n 1, 1) := by decide +kernel
theorem dX5_feels_64 : decode cX5_feels 64 = .ok (.ixor, 1) := by decide +kernel
theorem dX5_feels_65 : decode cX5_feels 65 = .ok (.invokestatic 130, 3) := by decide +kernel
theorem dX5_feels_68 : decode cX5_feels 68 = .ok (.istore 5, 2) := by decide +kernel
theorem dX5_feels_70 : decode cX5_feels 70 = .ok (.aload_n 0, 1) := by decide +kernel
theorem dX5_feels_71 : decode cX5_feels 71 = .ok (.getfield 10, 3) := by decide +kernel
theorem dX5_feels_74 : decode cX5_feels 74 = .ok (.iload 4, 2) := by decide +kernel
theorem dX5_feels_76 : decode cX5_feels 76 = .ok (.invokevirtual 115, 3) := by decide +kernel
theorem dX5_feels_79 : decode cX5_feels 79 = .ok (.ifCond .eq 20, 3) := by decide +kernel
theorem dX5_feels_82 : decode cX5_feels 82 = .ok (.iload 5, 2) := by decide +kernel
theorem dX5_feels_84 : decode cX5_feels 84 = .ok (.iload_n 3, 1) := by decide +kernel
theorem dX5_feels_85 : decode cX5_feels 85 = .ok (.if_icmp .ge 14, 3) := by decide +kernel
theorem dX5_feels_88 : decode cX5_feels 88 = .ok (.iconst 1, 1) := by decide +kernel
theorem dX5_feels_89 : decode cX5_feels 89 = .ok (.iload 4, 2) := by decide +kernel
theorem dX5_feels_91 : decode cX5_feels 91 = .ok (.ishl, 1) := by decide +kernel
theorem dX5_feels_92 : decode cX5_feels 92 = .ok (.istore_n 2, 1) := by decide +kernel
theorem dX5_feels_93 : decode cX5_feels 93 = .ok (.iload 5, 2) := by decide +kernel
theorem dX5_feels_95 : decode cX5_feels 95 = .ok (.istore_n 3, 1) := by decide +kernel
theorem dX5_feels_96 : decode cX5_feels 96 = .ok (.goto 28, 3) := by decide +kernel
theorem dX5_feels_99 : decode cX5_feels 99 = .ok (.aload_n 0, 1) := by decide +kernel
theorem dX5_feels_100 : decode cX5_feels 100 = .ok (.getfield 10, 3) := by decide +kernel
theorem dX5_feels_103 : decode cX5_feels 103 = .ok (.iload 4, 2) := by decide +kernel
theorem dX5_feels_105 : decode cX5_feels 105 = .ok (.invokevirtual 115, 3) := by decide +kernel
theorem dX5_feels_108 : decode cX5_feels 108 = .ok (.ifCond .eq 16, 3) := by decide +kernel
theorem dX5_feels_111 : decode cX5_feels 111 = .ok (.iload 5, 2) := by decide +kernel
theorem dX5_feels_113 : decode cX5_feels 113 = .ok (.iload_n 3, 1) := by decide +kernel
theorem dX5_feels_114 : decode cX5_feels 114 = .ok (.if_icmp .ne 10, 3) := by decide +kernel
theorem dX5_feels_117 : decode cX5_feels 117 = .ok (.iload_n 2, 1) := by decide +kernel
theorem dX5_feels_118 : decode cX5_feels 118 = .ok (.iconst 1, 1) := by decide +kernel
theorem dX5_feels_119 : decode cX5_feels 119 = .ok (.iload 4, 2) := by decide +kernel
theorem dX5_feels_121 : decode cX5_feels 121 = .ok (.ishl, 1) := by decide +kernel
theorem dX5_feels_122 : decode cX5_feels 122 = .ok (.ior, 1) := by decide +kernel
theorem dX5_feels_123 : decode cX5_feels 123 = .ok (.istore_n 2, 1) := by decide +kernel
theorem dX5_feels_124 : decode cX5_feels 124 = .ok (.iinc 4 1, 3) := by decide +kernel
theorem dX5_feels_127 : decode cX5_feels 127 = .ok (.goto (-86), 3) := by decide +kernel
theorem dX5_feels_130 : decode cX5_feels 130 = .ok (.iload_n 2, 1) := by decide +kernel
theorem dX5_feels_131 : decode cX5_feels 131 = .ok (.ireturn, 1) := by decide +kernel
theorem dX5_kind_0 : decode cX5_kind 0 = .ok (.aload_n 0, 1) := by decide +kernel
theorem dX5_kind_1 : decode cX5_kind 1 = .ok (.getfield 10, 3) := by decide +kernel
theorem dX5_kind_4 : decode cX5_kind 4 = .ok (.iload_n 1, 1) := by decide +kernel
theorem dX5_kind_5 : decode cX5_kind 5 = .ok (.invokevirtual 73, 3) := by decide +kernel
theorem dX5_kind_8 : decode cX5_kind 8 = .ok (.ifCond .ne 10, 3) := by decide +kernel
theorem dX5_kind_11 : decode cX5_kind 11 = .ok (.aload_n 0, 1) := by decide +kernel
theorem dX5_kind_12 : decode cX5_kind 12 = .ok (.ldc 60, 2) := by decide +kernel
theorem dX5_kind_14 : decode cX5_kind 14 = .ok (.invokevirtual 61, 3) := by decide +kernel
theorem dX5_kind_17 : decode cX5_kind 17 = .ok (.ireturn, 1) := by decide +kernel
theorem dX5_kind_18 : decode cX5_kind 18 = .ok (.aload_n 0, 1) := by decide +kernel
theorem dX5_kind_19 : decode cX5_kind 19 = .ok (.getfield 10, 3) := by decide +kernel
theorem dX5_kind_22 : decode cX5_kind 22 = .ok (.iload_n 1, 1) := by decide +kernel
theorem dX5_kind_23 : decode cX5_kind 23 = .ok (.invokevirtual 115, 3) := by decide +kernel
theorem dX5_kind_26 : decode cX5_kind 26 = .ok (.ifCond .ne 10, 3) := by decide +kernel
theorem dX5_kind_29 : decode cX5_kind 29 = .ok (.aload_n 0, 1) := by decide +kernel
theorem dX5_kind_30 : decode cX5_kind 30 = .ok (.ldc 118, 2) := by decide +kernel
theorem dX5_kind_32 : decode cX5_kind 32 = .ok (.invokevirtual 61, 3) := by decide +kernel
theorem dX5_kind_35 : decode cX5_kind 35 = .ok (.ireturn, 1) := by decide +kernel
theorem dX5_kind_36 : decode cX5_kind 36 = .ok (.iconst 0, 1) := by decide +kernel
theorem dX5_kind_37 : decode cX5_kind 37 = .ok (.istore_n 2, 1) := by decide +kernel
theorem dX5_kind_38 : decode cX5_kind 38 = .ok (.bipush 13, 2) := by decide +kernel
theorem dX5_kind_40 : decode cX5_kind 40 = .ok (.istore_n 3, 1) := by decide +kernel
theorem dX5_kind_41 : decode cX5_kind 41 = .ok (.iconst 0, 1) := by decide +kernel
theorem dX5_kind_42 : decode cX5_kind 42 = .ok (.istore 4, 2) := by decide +kernel
theorem dX5_kind_44 : decode cX5_kind 44 = .ok (.iload 4, 2) := by decide +kernel
theorem dX5_kind_46 : decode cX5_kind 46 = .ok (.bipush 6, 2) := by decide +kernel
theorem dX5_kind_48 : decode cX5_kind 48 = .ok (.if_icmp .ge 48, 3) := by decide +kernel
theorem dX5_kind_51 : decode cX5_kind 51 = .ok (.aload_n 0, 1) := by decide +kernel
theorem dX5_kind_52 : decode cX5_kind 52 = .ok (.getfield 10, 3) := by decide +kernel
theorem dX5_kind_55 : decode cX5_kind 55 = .ok (.iload_n 1, 1) := by decide +kernel
theorem dX5_kind_56 : decode cX5_kind 56 = .ok (.iload 4, 2) := by decide +kernel
theorem dX5_kind_58 : decode cX5_kind 58 = .ok (.aload_n 0, 1) := by decide +kernel
theorem dX5_kind_59 : decode cX5_kind 59 = .ok (.getfield 10, 3) := by decide +kernel
theorem dX5_kind_62 : decode cX5_kind 62 = .ok (.getfield 79, 3) := by decide +kernel
theorem dX5_kind_65 : decode cX5_kind 65 = .ok (.iload_n 1, 1) := by decide +kernel
theorem dX5_kind_66 : decode cX5_kind 66 = .ok (.iaload, 1) := by decide +kernel
theorem dX5_kind_67 : decode cX5_kind 67 = .ok (.invokevirtual 175, 3) := by decide +kernel
theorem dX5_kind_70 : decode cX5_kind 70 = .ok (.istore 5, 2) := by decide +kernel
theorem dX5_kind_72 : decode cX5_kind 72 = .ok (.iload 5, 2) := by decide +kernel
theorem dX5_kind_74 : decode cX5_kind 74 = .ok (.invokestatic 130, 3) := by decide +kernel
theorem dX5_kind_77 : decode cX5_kind 77 = .ok (.iload_n 3, 1) := by decide +kernel
theorem dX5_kind_78 : decode cX5_kind 78 = .ok (.if_icmp .ge 12, 3) := by decide +kernel
theorem dX5_kind_81 : decode cX5_kind 81 = .ok (.iload 4, 2) := by decide +kernel
theorem dX5_kind_83 : decode cX5_kind 83 = .ok (.istore_n 2, 1) := by decide +kernel
theorem dX5_kind_84 : decode cX5_kind 84 = .ok (.iload 5, 2) := by decide +kernel
theorem dX5_kind_86 : decode cX5_kind 86 = .ok (.invokestatic 130, 3) := by decide +kernel
theorem dX5_kind_89 : decode cX5_kind 89 = .ok (.istore_n 3, 1) := by decide +kernel
theorem dX5_kind_90 : decode cX5_kind 90 = .ok (.iinc 4 1, 3) := by decide +kernel
theorem dX5_kind_93 : decode cX5_kind 93 = .ok (.goto (-49), 3) := by decide +kernel
theorem dX5_kind_96 : decode cX5_kind 96 = .ok (.iload_n 2, 1) := by decide +kernel
theorem dX5_kind_97 : decode cX5_kind 97 = .ok (.ireturn, 1) := by decide +kernel
theorem dX5_feed_0 : decode cX5_feed 0 = .ok (.iload_n 2, 1) := by decide +kernel
theorem dX5_feed_1 : decode cX5_feed 1 = .ok (.iconst 1, 1) := by decide +kernel
theorem dX5_feed_2 : decode cX5_feed 2 = .ok (.if_icmp .lt 8, 3) := by decide +kernel
theorem dX5_feed_5 : decode cX5_feed 5 = .ok (.iload_n 2, 1) := by decide +kernel
theorem dX5_feed_6 : decode cX5_feed 6 = .ok (.iconst 4, 1) := by decide +kernel
theorem dX5_feed_7 : decode cX5_feed 7 = .ok (.if_icmp .le 10, 3) := by decide +kernel
theorem dX5_feed_10 : decode cX5_feed 10 = .ok (.aload_n 0, 1) := by decide +kernel
theorem dX5_feed_11 : decode cX5_feed 11 = .ok (.ldc 60, 2) := by decide +kernel
theorem dX5_feed_13 : decode cX5_feed 13 = .ok (.invokevirtual 61, 3) := by decide +kernel
theorem dX5_feed_16 : decode cX5_feed 16 = .ok (.ireturn, 1) := by decide +kernel
theorem dX5_feed_17 : decode cX5_feed 17 = .ok (.aload_n 0, 1) := by decide +kernel
theorem dX5_feed_18 : decode cX5_feed 18 = .ok (.getfield 32, 3) := by decide +kernel
theorem dX5_feed_21 : decode cX5_feed 21 = .ok (.getfield 214, 3) := by decide +kernel
theorem dX5_feed_24 : decode cX5_feed 24 = .ok (.iload_n 2, 1) := by decide +kernel
theorem dX5_feed_25 : decode cX5_feed 25 = .ok (.iadd, 1) := by decide +kernel
theorem dX5_feed_26 : decode cX5_feed 26 = .ok (.bipush 120, 2) := by decide +kernel
theorem dX5_feed_28 : decode cX5_feed 28 = .ok (.if_icmp .le 10, 3) := by decide +kernel
theorem dX5_feed_31 : decode cX5_feed 31 = .ok (.aload_n 0, 1) := by decide +kernel
theorem dX5_feed_32 : decode cX5_feed 32 = .ok (.ldc 69, 2) := by decide +kernel
theorem dX5_feed_34 : decode cX5_feed 34 = .ok (.invokevirtual 61, 3) := by decide +kernel
theorem dX5_feed_37 : decode cX5_feed 37 = .ok (.ireturn, 1) := by decide +kernel
theorem dX5_feed_38 : decode cX5_feed 38 = .ok (.iload_n 2, 1) := by decide +kernel
theorem dX5_feed_39 : decode cX5_feed 39 = .ok (.iconst 1, 1) := by decide +kernel
theorem dX5_feed_40 : decode cX5_feed 40 = .ok (.isub, 1) := by decide +kernel
theorem dX5_feed_41 : decode cX5_feed 41 = .ok (.istore_n 3, 1) := by decide +kernel
theorem dX5_feed_42 : decode cX5_feed 42 = .ok (.iload_n 3, 1) := by decide +kernel
theorem dX5_feed_43 : decode cX5_feed 43 = .ok (.ifCond .lt 23, 3) := by decide +kernel
theorem dX5_feed_46 : decode cX5_feed 46 = .ok (.aload_n 0, 1) := by decide +kernel
theorem dX5_feed_47 : decode cX5_feed 47 = .ok (.getfield 32, 3) := by decide +kernel
theorem dX5_feed_50 : decode cX5_feed 50 = .ok (.iload_n 1, 1) := by decide +kernel
theorem dX5_feed_51 : decode cX5_feed 51 = .ok (.bipush 8, 2) := by decide +kernel
theorem dX5_feed_53 : decode cX5_feed 53 = .ok (.iload_n 3, 1) := by decide +kernel
theorem dX5_feed_54 : decode cX5_feed 54 = .ok (.imul, 1) := by decide +kernel
theorem dX5_feed_55 : decode cX5_feed 55 = .ok (.ishr, 1) := by decide +kernel
theorem dX5_feed_56 : decode cX5_feed 56 = .ok (.i2b, 1) := by decide +kernel
theorem dX5_feed_57 : decode cX5_feed 57 = .ok (.invokevirtual 217, 3) := by decide +kernel
theorem dX5_feed_60 : decode cX5_feed 60 = .ok (.iinc 3 (-1), 3) := by decide +kernel
theorem dX5_feed_63 : decode cX5_feed 63 = .ok (.goto (-21), 3) := by decide +kernel
theorem dX5_feed_66 : decode cX5_feed 66 = .ok (.aload_n 0, 1) := by decide +kernel
theorem dX5_feed_67 : decode cX5_feed 67 = .ok (.getfield 32, 3) := by decide +kernel
theorem dX5_feed_70 : decode cX5_feed 70 = .ok (.getfield 214, 3) := by decide +kernel
theorem dX5_feed_73 : decode cX5_feed 73 = .ok (.ireturn, 1) := by decide +kernel
theorem dX5_wipe_0 : decode cX5_wipe 0 = .ok (.aload_n 0, 1) := by decide +kernel
theorem dX5_wipe_1 : decode cX5_wipe 1 = .ok (.getfield 32, 3) := by decide +kernel
theorem dX5_wipe_4 : decode cX5_wipe 4 = .ok (.getfield 214, 3) := by decide +kernel
theorem dX5_wipe_7 : decode cX5_wipe 7 = .ok (.istore_n 1, 1) := by decide +kernel
theorem dX5_wipe_8 : decode cX5_wipe 8 = .ok (.aload_n 0, 1) := by decide +kernel
theorem dX5_wipe_9 : decode cX5_wipe 9 = .ok (.getfield 32, 3) := by decide +kernel
theorem dX5_wipe_12 : decode cX5_wipe 12 = .ok (.iconst 0, 1) := by decide +kernel
theorem dX5_wipe_13 : decode cX5_wipe 13 = .ok (.putfield 214, 3) := by decide +kernel
theorem dX5_wipe_16 : decode cX5_wipe 16 = .ok (.iload_n 1, 1) := by decide +kernel
theorem dX5_wipe_17 : decode cX5_wipe 17 = .ok (.ireturn, 1) := by decide +kernel
theorem dX5_rail_0 : decode cX5_rail 0 = .ok (.aload_n 0, 1) := by decide +kernel
theorem dX5_rail_1 : decode cX5_rail 1 = .ok (.getfield 19, 3) := by decide +kernel
theorem dX5_rail_4 : decode cX5_rail 4 = .ok (.aload_n 0, 1) := by decide +kernel
theorem dX5_rail_5 : decode cX5_rail 5 = .ok (.getfield 10, 3) := by decide +kernel
theorem dX5_rail_8 : decode cX5_rail 8 = .ok (.invokevirtual 221, 3) := by decide +kernel
theorem dX5_rail_11 : decode cX5_rail 11 = .ok (.aload_n 0, 1) := by decide +kernel
theorem dX5_rail_12 : decode cX5_rail 12 = .ok (.getfield 41, 3) := by decide +kernel
theorem dX5_rail_15 : decode cX5_rail 15 = .ok (.aload_n 0, 1) := by decide +kernel
theorem dX5_rail_16 : decode cX5_rail 16 = .ok (.getfield 19, 3) := by decide +kernel
theorem dX5_rail_19 : decode cX5_rail 19 = .ok (.invokevirtual 224, 3) := by decide +kernel
theorem dX5_rail_22 : decode cX5_rail 22 = .ok (.istore_n 1, 1) := by decide +kernel
theorem dX5_rail_23 : decode cX5_rail 23 = .ok (.iload_n 1, 1) := by decide +kernel
theorem dX5_rail_24 : decode cX5_rail 24 = .ok (.ifCond .lt 14, 3) := by decide +kernel
theorem dX5_rail_27 : decode cX5_rail 27 = .ok (.aload_n 0, 1) := by decide +kernel
theorem dX5_rail_28 : decode cX5_rail 28 = .ok (.getfield 10, 3) := by decide +kernel
theorem dX5_rail_31 : decode cX5_rail 31 = .ok (.aload_n 0, 1) := by decide +kernel
theorem dX5_rail_32 : decode cX5_rail 32 = .ok (.getfield 19, 3) := by decide +kernel
theorem dX5_rail_35 : decode cX5_rail 35 = .ok (.invokevirtual 221, 3) := by decide +kernel
theorem dX5_rail_38 : decode cX5_rail 38 = .ok (.aload_n 0, 1) := by decide +kernel
theorem dX5_rail_39 : decode cX5_rail 39 = .ok (.getfield 32, 3) := by decide +kernel
theorem dX5_rail_42 : decode cX5_rail 42 = .ok (.iconst 0, 1) := by decide +kernel
theorem dX5_rail_43 : decode cX5_rail 43 = .ok (.putfield 214, 3) := by decide +kernel
theorem dX5_rail_46 : decode cX5_rail 46 = .ok (.iload_n 1, 1) := by decide +kernel
theorem dX5_rail_47 : decode cX5_rail 47 = .ok (.ireturn, 1) := by decide +kernel
theorem dX5_sheet_0 : decode cX5_sheet 0 = .ok (.iload_n 2, 1) := by decide +kernel
theorem dX5_sheet_1 : decode cX5_sheet 1 = .ok (.ifCond .eq 21, 3) := by decide +kernel
theorem dX5_sheet_4 : decode cX5_sheet 4 = .ok (.iload_n 2, 1) := by decide +kernel
theorem dX5_sheet_5 : decode cX5_sheet 5 = .ok (.bipush 8, 2) := by decide +kernel
theorem dX5_sheet_7 : decode cX5_sheet 7 = .ok (.if_icmp .eq 15, 3) := by decide +kernel
theorem dX5_sheet_10 : decode cX5_sheet 10 = .ok (.iload_n 2, 1) := by decide +kernel
theorem dX5_sheet_11 : decode cX5_sheet 11 = .ok (.bipush 16, 2) := by decide +kernel
theorem dX5_sheet_13 : decode cX5_sheet 13 = .ok (.if_icmp .eq 9, 3) := by decide +kernel
theorem dX5_sheet_16 : decode cX5_sheet 16 = .ok (.iload_n 2, 1) := by decide +kernel
theorem dX5_sheet_17 : decode cX5_sheet 17 = .ok (.bipush 64, 2) := by decide +kernel
theorem dX5_sheet_19 : decode cX5_sheet 19 = .ok (.if_icmp .ne 7, 3) := by decide +kernel
theorem dX5_sheet_22 : decode cX5_sheet 22 = .ok (.iconst 1, 1) := by decide +kernel
theorem dX5_sheet_23 : decode cX5_sheet 23 = .ok (.goto 4, 3) := by decide +kernel
theorem dX5_sheet_26 : decode cX5_sheet 26 = .ok (.iconst 0, 1) := by decide +kernel
theorem dX5_sheet_27 : decode cX5_sheet 27 = .ok (.istore 4, 2) := by decide +kernel
theorem dX5_sheet_29 : decode cX5_sheet 29 = .ok (.iload_n 1, 1) := by decide +kernel
theorem dX5_sheet_30 : decode cX5_sheet 30 = .ok (.invokestatic 228, 3) := by decide +kernel
theorem dX5_sheet_33 : decode cX5_sheet 33 = .ok (.ifCond .eq 8, 3) := by decide +kernel
theorem dX5_sheet_36 : decode cX5_sheet 36 = .ok (.iload 4, 2) := by decide +kernel
theorem dX5_sheet_38 : decode cX5_sheet 38 = .ok (.ifCond .ne 10, 3) := by decide +kernel
theorem dX5_sheet_41 : decode cX5_sheet 41 = .ok (.aload_n 0, 1) := by decide +kernel
theorem dX5_sheet_42 : decode cX5_sheet 42 = .ok (.ldc 60, 2) := by decide +kernel
theorem dX5_sheet_44 : decode cX5_sheet 44 = .ok (.invokevirtual 61, 3) := by decide +kernel
theorem dX5_sheet_47 : decode cX5_sheet 47 = .ok (.ireturn, 1) := by decide +kernel
theorem dX5_sheet_48 : decode cX5_sheet 48 = .ok (.iload_n 3, 1) := by decide +kernel
theorem dX5_sheet_49 : decode cX5_sheet 49 = .ok (.ifCond .ge 10, 3) := by decide +kernel
theorem dX5_sheet_52 : decode cX5_sheet 52 = .ok (.aload_n 0, 1) := by decide +kernel
theorem dX5_sheet_53 : decode cX5_sheet 53 = .ok (.ldc 231, 2) := by decide +kernel
theorem dX5_sheet_55 : decode cX5_sheet 55 = .ok (.invokevirtual 61, 3) := by decide +kernel
theorem dX5_sheet_58 : decode cX5_sheet 58 = .ok (.ireturn, 1) := by decide +kernel
theorem dX5_sheet_59 : decode cX5_sheet 59 = .ok (.iload_n 3, 1) := by decide +kernel
theorem dX5_sheet_60 : decode cX5_sheet 60 = .ok (.bipush 40, 2) := by decide +kernel
theorem dX5_sheet_62 : decode cX5_sheet 62 = .ok (.if_icmp .le 10, 3) := by decide +kernel
theorem dX5_sheet_65 : decode cX5_sheet 65 = .ok (.aload_n 0, 1) := by decide +kernel
theorem dX5_sheet_66 : decode cX5_sheet 66 = .ok (.ldc 60, 2) := by decide +kernel
theorem dX5_sheet_68 : decode cX5_sheet 68 = .ok (.invokevirtual 61, 3) := by decide +kernel
theorem dX5_sheet_71 : decode cX5_sheet 71 = .ok (.ireturn, 1) := by decide +kernel
theorem dX5_sheet_72 : decode cX5_sheet 72 = .ok (.iload_n 2, 1) := by decide +kernel
theorem dX5_sheet_73 : decode cX5_sheet 73 = .ok (.ifCond .ne 7, 3) := by decide +kernel
theorem dX5_sheet_76 : decode cX5_sheet 76 = .ok (.iconst 0, 1) := by decide +kernel
theorem dX5_sheet_77 : decode cX5_sheet 77 = .ok (.goto 4, 3) := by decide +kernel
theorem dX5_sheet_80 : decode cX5_sheet 80 = .ok (.iload_n 3, 1) := by decide +kernel
theorem dX5_sheet_81 : decode cX5_sheet 81 = .ok (.istore 5, 2) := by decide +kernel
theorem dX5_sheet_83 : decode cX5_sheet 83 = .ok (.aload_n 0, 1) := by decide +kernel
theorem dX5_sheet_84 : decode cX5_sheet 84 = .ok (.getfield 47, 3) := by decide +kernel
theorem dX5_sheet_87 : decode cX5_sheet 87 = .ok (.iload_n 1, 1) := by decide +kernel
theorem dX5_sheet_88 : decode cX5_sheet 88 = .ok (.aaload, 1) := by decide +kernel
theorem dX5_sheet_89 : decode cX5_sheet 89 = .ok (.iload_n 2, 1) := by decide +kernel
theorem dX5_sheet_90 : decode cX5_sheet 90 = .ok (.iload 5, 2) := by decide +kernel
theorem dX5_sheet_92 : decode cX5_sheet 92 = .ok (.invokevirtual 232, 3) := by decide +kernel
theorem dX5_sheet_95 : decode cX5_sheet 95 = .ok (.iload 5, 2) := by decide +kernel
theorem dX5_sheet_97 : decode cX5_sheet 97 = .ok (.ireturn, 1) := by decide +kernel
theorem dX5_write_0 : decode cX5_write 0 = .ok (.aload_n 0, 1) := by decide +kernel
theorem dX5_write_1 : decode cX5_write 1 = .ok (.iload_n 1, 1) := by decide +kernel
theorem dX5_write_2 : decode cX5_write 2 = .ok (.invokevirtual 235, 3) := by decide +kernel
theorem dX5_write_5 : decode cX5_write 5 = .ok (.istore 5, 2) := by decide +kernel
theorem dX5_write_7 : decode cX5_write 7 = .ok (.iload 5, 2) := by decide +kernel
theorem dX5_write_9 : decode cX5_write 9 = .ok (.ifCond .eq 11, 3) := by decide +kernel
theorem dX5_write_12 : decode cX5_write 12 = .ok (.aload_n 0, 1) := by decide +kernel
theorem dX5_write_13 : decode cX5_write 13 = .ok (.iload 5, 2) := by decide +kernel
theorem dX5_write_15 : decode cX5_write 15 = .ok (.invokevirtual 61, 3) := by decide +kernel
theorem dX5_write_18 : decode cX5_write 18 = .ok (.i2l, 1) := by decide +kernel
theorem dX5_write_19 : decode cX5_write 19 = .ok (.lreturn, 1) := by decide +kernel
theorem dX5_write_20 : decode cX5_write 20 = .ok (.aload_n 0, 1) := by decide +kernel
theorem dX5_write_21 : decode cX5_write 21 = .ok (.getfield 47, 3) := by decide +kernel
theorem dX5_write_24 : decode cX5_write 24 = .ok (.iload_n 1, 1) := by decide +kernel
theorem dX5_write_25 : decode cX5_write 25 = .ok (.aaload, 1) := by decide +kernel
theorem dX5_write_26 : decode cX5_write 26 = .ok (.astore 6, 2) := by decide +kernel
theorem dX5_write_28 : decode cX5_write 28 = .ok (.iload_n 2, 1) := by decide +kernel
theorem dX5_write_29 : decode cX5_write 29 = .ok (.ifCond .lt 12, 3) := by decide +kernel
theorem dX5_write_32 : decode cX5_write 32 = .ok (.iload_n 2, 1) := by decide +kernel
theorem dX5_write_33 : decode cX5_write 33 = .ok (.aload 6, 2) := by decide +kernel
theorem dX5_write_35 : decode cX5_write 35 = .ok (.getfield 238, 3) := by decide +kernel
theorem dX5_write_38 : decode cX5_write 38 = .ok (.if_icmp .lt 11, 3) := by decide +kernel
theorem dX5_write_41 : decode cX5_write 41 = .ok (.aload_n 0, 1) := by decide +kernel
theorem dX5_write_42 : decode cX5_write 42 = .ok (.ldc 60, 2) := by decide +kernel
theorem dX5_write_44 : decode cX5_write 44 = .ok (.invokevirtual 61, 3) := by decide +kernel
theorem dX5_write_47 : decode cX5_write 47 = .ok (.i2l, 1) := by decide +kernel
theorem dX5_write_48 : decode cX5_write 48 = .ok (.lreturn, 1) := by decide +kernel
theorem dX5_write_49 : decode cX5_write 49 = .ok (.aload 6, 2) := by decide +kernel
theorem dX5_write_51 : decode cX5_write 51 = .ok (.getfield 241, 3) := by decide +kernel
theorem dX5_write_54 : decode cX5_write 54 = .ok (.iload_n 2, 1) := by decide +kernel
theorem dX5_write_55 : decode cX5_write 55 = .ok (.laload, 1) := by decide +kernel
theorem dX5_write_56 : decode cX5_write 56 = .ok (.lstore 7, 2) := by decide +kernel
theorem dX5_write_58 : decode cX5_write 58 = .ok (.aload 6, 2) := by decide +kernel
theorem dX5_write_60 : decode cX5_write 60 = .ok (.iload_n 2, 1) := by decide +kernel
theorem dX5_write_61 : decode cX5_write 61 = .ok (.lload_n 3, 1) := by decide +kernel
theorem dX5_write_62 : decode cX5_write 62 = .ok (.invokevirtual 245, 3) := by decide +kernel
theorem dX5_write_65 : decode cX5_write 65 = .ok (.lload 7, 2) := by decide +kernel
theorem dX5_write_67 : decode cX5_write 67 = .ok (.lreturn, 1) := by decide +kernel
theorem dX5_copy_0 : decode cX5_copy 0 = .ok (.iload_n 1, 1) := by decide +kernel
theorem dX5_copy_1 : decode cX5_copy 1 = .ok (.invokestatic 228, 3) := by decide +kernel
theorem dX5_copy_4 : decode cX5_copy 4 = .ok (.ifCond .eq 10, 3) := by decide +kernel
theorem dX5_copy_7 : decode cX5_copy 7 = .ok (.iload_n 3, 1) := by decide +kernel
theorem dX5_copy_8 : decode cX5_copy 8 = .ok (.invokestatic 228, 3) := by decide +kernel
theorem dX5_copy_11 : decode cX5_copy 11 = .ok (.ifCond .ne 10, 3) := by decide +kernel
theorem dX5_copy_14 : decode cX5_copy 14 = .ok (.aload_n 0, 1) := by decide +kernel
theorem dX5_copy_15 : decode cX5_copy 15 = .ok (.ldc 60, 2) := by decide +kernel
theorem dX5_copy_17 : decode cX5_copy 17 = .ok (.invokevirtual 61, 3) := by decide +kernel
theorem dX5_copy_20 : decode cX5_copy 20 = .ok (.ireturn, 1) := by decide +kernel
theorem dX5_copy_21 : decode cX5_copy 21 = .ok (.aload_n 0, 1) := by decide +kernel
theorem dX5_copy_22 : decode cX5_copy 22 = .ok (.getfield 47, 3) := by decide +kernel
theorem dX5_copy_25 : decode cX5_copy 25 = .ok (.iload_n 1, 1) := by decide +kernel
theorem dX5_copy_26 : decode cX5_copy 26 = .ok (.aaload, 1) := by decide +kernel
theorem dX5_copy_27 : decode cX5_copy 27 = .ok (.astore 6, 2) := by decide +kernel
theorem dX5_copy_29 : decode cX5_copy 29 = .ok (.aload_n 0, 1) := by decide +kernel
theorem dX5_copy_30 : decode cX5_copy 30 = .ok (.getfield 47, 3) := by decide +kernel
theorem dX5_copy_33 : decode cX5_copy 33 = .ok (.iload_n 3, 1) := by decide +kernel
theorem dX5_copy_34 : decode cX5_copy 34 = .ok (.aaload, 1) := by decide +kernel
theorem dX5_copy_35 : decode cX5_copy 35 = .ok (.astore 7, 2) := by decide +kernel
theorem dX5_copy_37 : decode cX5_copy 37 = .ok (.aload 6, 2) := by decide +kernel
theorem dX5_copy_39 : decode cX5_copy 39 = .ok (.invokevirtual 248, 3) := by decide +kernel
theorem dX5_copy_42 : decode cX5_copy 42 = .ok (.ifCond .ne 11, 3) := by decide +kernel
theorem dX5_copy_45 : decode cX5_copy 45 = .ok (.aload 7, 2) := by decide +kernel
theorem dX5_copy_47 : decode cX5_copy 47 = .ok (.invokevirtual 248, 3) := by decide +kernel
theorem dX5_copy_50 : decode cX5_copy 50 = .ok (.ifCond .eq 10, 3) := by decide +kernel
theorem dX5_copy_53 : decode cX5_copy 53 = .ok (.aload_n 0, 1) := by decide +kernel
theorem dX5_copy_54 : decode cX5_copy 54 = .ok (.ldc 252, 2) := by decide +kernel
theorem dX5_copy_56 : decode cX5_copy 56 = .ok (.invokevirtual 61, 3) := by decide +kernel
theorem dX5_copy_59 : decode cX5_copy 59 = .ok (.ireturn, 1) := by decide +kernel
theorem dX5_copy_60 : decode cX5_copy 60 = .ok (.aload 6, 2) := by decide +kernel
theorem dX5_copy_62 : decode cX5_copy 62 = .ok (.getfield 253, 3) := by decide +kernel
theorem dX5_copy_65 : decode cX5_copy 65 = .ok (.aload 7, 2) := by decide +kernel
theorem dX5_copy_67 : decode cX5_copy 67 = .ok (.getfield 253, 3) := by decide +kernel
theorem dX5_copy_70 : decode cX5_copy 70 = .ok (.if_icmp .eq 10, 3) := by decide +kernel
theorem dX5_copy_73 : decode cX5_copy 73 = .ok (.aload_n 0, 1) := by decide +kernel
theorem dX5_copy_74 : decode cX5_copy 74 = .ok (.ldc 101, 2) := by decide +kernel
theorem dX5_copy_76 : decode cX5_copy 76 = .ok (.invokevirtual 61, 3) := by decide +kernel
theorem dX5_copy_79 : decode cX5_copy 79 = .ok (.ireturn, 1) := by decide +kernel
theorem dX5_copy_80 : decode cX5_copy 80 = .ok (.aload 6, 2) := by decide +kernel
theorem dX5_copy_82 : decode cX5_copy 82 = .ok (.iload_n 2, 1) := by decide +kernel
theorem dX5_copy_83 : decode cX5_copy 83 = .ok (.iload 5, 2) := by decide +kernel
theorem dX5_copy_85 : decode cX5_copy 85 = .ok (.invokevirtual 256, 3) := by decide +kernel
theorem dX5_copy_88 : decode cX5_copy 88 = .ok (.ifCond .eq 15, 3) := by decide +kernel
theorem dX5_copy_91 : decode cX5_copy 91 = .ok (.aload 7, 2) := by decide +kernel
theorem dX5_copy_93 : decode cX5_copy 93 = .ok (.iload 4, 2) := by decide +kernel
theorem dX5_copy_95 : decode cX5_copy 95 = .ok (.iload 5, 2) := by decide +kernel
theorem dX5_copy_97 : decode cX5_copy 97 = .ok (.invokevirtual 256, 3) := by decide +kernel
theorem dX5_copy_100 : decode cX5_copy 100 = .ok (.ifCond .ne 10, 3) := by decide +kernel
theorem dX5_copy_103 : decode cX5_copy 103 = .ok (.aload_n 0, 1) := by decide +kernel
theorem dX5_copy_104 : decode cX5_copy 104 = .ok (.ldc 60, 2) := by decide +kernel
theorem dX5_copy_106 : decode cX5_copy 106 = .ok (.invokevirtual 61, 3) := by decide +kernel
theorem dX5_copy_109 : decode cX5_copy 109 = .ok (.ireturn, 1) := by decide +kernel
theorem dX5_copy_110 : decode cX5_copy 110 = .ok (.aload 6, 2) := by decide +kernel
theorem dX5_copy_112 : decode cX5_copy 112 = .ok (.getfield 241, 3) := by decide +kernel
theorem dX5_copy_115 : decode cX5_copy 115 = .ok (.iload_n 2, 1) := by decide +kernel
theorem dX5_copy_116 : decode cX5_copy 116 = .ok (.aload 7, 2) := by decide +kernel
theorem dX5_copy_118 : decode cX5_copy 118 = .ok (.getfield 241, 3) := by decide +kernel
theorem dX5_copy_121 : decode cX5_copy 121 = .ok (.iload 4, 2) := by decide +kernel
theorem dX5_copy_123 : decode cX5_copy 123 = .ok (.iload 5, 2) := by decide +kernel
theorem dX5_copy_125 : decode cX5_copy 125 = .ok (.invokestatic 259, 3) := by decide +kernel
theorem dX5_copy_128 : decode cX5_copy 128 = .ok (.iload 5, 2) := by decide +kernel
theorem dX5_copy_130 : decode cX5_copy 130 = .ok (.ireturn, 1) := by decide +kernel
theorem dX5_lays_0 : decode cX5_lays 0 = .ok (.aload_n 0, 1) := by decide +kernel
theorem dX5_lays_1 : decode cX5_lays 1 = .ok (.iload_n 1, 1) := by decide +kernel
theorem dX5_lays_2 : decode cX5_lays 2 = .ok (.invokevirtual 235, 3) := by decide +kernel
theorem dX5_lays_5 : decode cX5_lays 5 = .ok (.istore_n 2, 1) := by decide +kernel
theorem dX5_lays_6 : decode cX5_lays 6 = .ok (.iload_n 2, 1) := by decide +kernel
theorem dX5_lays_7 : decode cX5_lays 7 = .ok (.ifCond .eq 9, 3) := by decide +kernel
theorem dX5_lays_10 : decode cX5_lays 10 = .ok (.aload_n 0, 1) := by decide +kernel
theorem dX5_lays_11 : decode cX5_lays 11 = .ok (.iload_n 2, 1) := by decide +kernel
theorem dX5_lays_12 : decode cX5_lays 12 = .ok (.invokevirtual 61, 3) := by decide +kernel
theorem dX5_lays_15 : decode cX5_lays 15 = .ok (.ireturn, 1) := by decide +kernel
theorem dX5_lays_16 : decode cX5_lays 16 = .ok (.aload_n 0, 1) := by decide +kernel
theorem dX5_lays_17 : decode cX5_lays 17 = .ok (.getfield 47, 3) := by decide +kernel
theorem dX5_lays_20 : decode cX5_lays 20 = .ok (.iload_n 1, 1) := by decide +kernel
theorem dX5_lays_21 : decode cX5_lays 21 = .ok (.aaload, 1) := by decide +kernel
theorem dX5_lays_22 : decode cX5_lays 22 = .ok (.astore_n 3, 1) := by decide +kernel
theorem dX5_lays_23 : decode cX5_lays 23 = .ok (.iconst 0, 1) := by decide +kernel
theorem dX5_lays_24 : decode cX5_lays 24 = .ok (.istore 4, 2) := by decide +kernel
theorem dX5_lays_26 : decode cX5_lays 26 = .ok (.aload_n 3, 1) := by decide +kernel
theorem dX5_lays_27 : decode cX5_lays 27 = .ok (.getfield 238, 3) := by decide +kernel
theorem dX5_lays_30 : decode cX5_lays 30 = .ok (.aload_n 0, 1) := by decide +kernel
theorem dX5_lays_31 : decode cX5_lays 31 = .ok (.getfield 10, 3) := by decide +kernel
theorem dX5_lays_34 : decode cX5_lays 34 = .ok (.getfield 65, 3) := by decide +kernel
theorem dX5_lays_37 : decode cX5_lays 37 = .ok (.invokestatic 265, 3) := by decide +kernel
theorem dX5_lays_40 : decode cX5_lays 40 = .ok (.istore 5, 2) := by decide +kernel
theorem dX5_lays_42 : decode cX5_lays 42 = .ok (.iconst 0, 1) := by decide +kernel
theorem dX5_lays_43 : decode cX5_lays 43 = .ok (.istore 6, 2) := by decide +kernel
theorem dX5_lays_45 : decode cX5_lays 45 = .ok (.iload 6, 2) := by decide +kernel
theorem dX5_lays_47 : decode cX5_lays 47 = .ok (.iload 5, 2) := by decide +kernel
theorem dX5_lays_49 : decode cX5_lays 49 = .ok (.if_icmp .ge 81, 3) := by decide +kernel
theorem dX5_lays_52 : decode cX5_lays 52 = .ok (.aload_n 3, 1) := by decide +kernel
theorem dX5_lays_53 : decode cX5_lays 53 = .ok (.getfield 241, 3) := by decide +kernel
theorem dX5_lays_56 : decode cX5_lays 56 = .ok (.iload 6, 2) := by decide +kernel
theorem dX5_lays_58 : decode cX5_lays 58 = .ok (.laload, 1) := by decide +kernel
theorem dX5_lays_59 : decode cX5_lays 59 = .ok (.lstore 7, 2) := by decide +kernel
theorem dX5_lays_61 : decode cX5_lays 61 = .ok (.aload_n 0, 1) := by decide +kernel
theorem dX5_lays_62 : decode cX5_lays 62 = .ok (.getfield 10, 3) := by decide +kernel
theorem dX5_lays_65 : decode cX5_lays 65 = .ok (.iload 6, 2) := by decide +kernel
theorem dX5_lays_67 : decode cX5_lays 67 = .ok (.invokevirtual 115, 3) := by decide +kernel
theorem dX5_lays_70 : decode cX5_lays 70 = .ok (.ifCond .ne 54, 3) := by decide +kernel
theorem dX5_lays_73 : decode cX5_lays 73 = .ok (.lload 7, 2) := by decide +kernel
theorem dX5_lays_75 : decode cX5_lays 75 = .ok (.lconst 0, 1) := by decide +kernel
theorem dX5_lays_76 : decode cX5_lays 76 = .ok (.lcmp, 1) := by decide +kernel
theorem dX5_lays_77 : decode cX5_lays 77 = .ok (.ifCond .lt 47, 3) := by decide +kernel
theorem dX5_lays_80 : decode cX5_lays 80 = .ok (.lload 7, 2) := by decide +kernel
theorem dX5_lays_82 : decode cX5_lays 82 = .ok (.ldc2_w 268, 3) := by decide +kernel
theorem dX5_lays_85 : decode cX5_lays 85 = .ok (.lcmp, 1) := by decide +kernel
theorem dX5_lays_86 : decode cX5_lays 86 = .ok (.ifCond .ge 38, 3) := by decide +kernel
theorem dX5_lays_89 : decode cX5_lays 89 = .ok (.aload_n 0, 1) := by decide +kernel
theorem dX5_lays_90 : decode cX5_lays 90 = .ok (.getfield 10, 3) := by decide +kernel
theorem dX5_lays_93 : decode cX5_lays 93 = .ok (.lload 7, 2) := by decide +kernel
theorem dX5_lays_95 : decode cX5_lays 95 = .ok (.l2i, 1) := by decide +kernel
theorem dX5_lays_96 : decode cX5_lays 96 = .ok (.invokevirtual 108, 3) := by decide +kernel
theorem dX5_lays_99 : decode cX5_lays 99 = .ok (.ifCond .eq 25, 3) := by decide +kernel
theorem dX5_lays_102 : decode cX5_lays 102 = .ok (.aload_n 0, 1) := by decide +kernel
theorem dX5_lays_103 : decode cX5_lays 103 = .ok (.getfield 10, 3) := by decide +kernel
theorem dX5_lays_106 : decode cX5_lays 106 = .ok (.iload 6, 2) := by decide +kernel
theorem dX5_lays_108 : decode cX5_lays 108 = .ok (.lload 7, 2) := by decide +kernel
theorem dX5_lays_110 : decode cX5_lays 110 = .ok (.l2i, 1) := by decide +kernel
theorem dX5_lays_111 : decode cX5_lays 111 = .ok (.invokevirtual 119, 3) := by decide +kernel
theorem dX5_lays_114 : decode cX5_lays 114 = .ok (.aload_n 0, 1) := by decide +kernel
theorem dX5_lays_115 : decode cX5_lays 115 = .ok (.getfield 10, 3) := by decide +kernel
theorem dX5_lays_118 : decode cX5_lays 118 = .ok (.invokevirtual 123, 3) := by decide +kernel
theorem dX5_lays_121 : decode cX5_lays 121 = .ok (.iinc 4 1, 3) := by decide +kernel
theorem dX5_lays_124 : decode cX5_lays 124 = .ok (.iinc 6 1, 3) := by decide +kernel
theorem dX5_lays_127 : decode cX5_lays 127 = .ok (.goto (-82), 3) := by decide +kernel
theorem dX5_lays_130 : decode cX5_lays 130 = .ok (.iload 4, 2) := by decide +kernel
theorem dX5_lays_132 : decode cX5_lays 132 = .ok (.ireturn, 1) := by decide +kernel
theorem dX5_book_0 : decode cX5_book 0 = .ok (.aload_n 0, 1) := by decide +kernel
theorem dX5_book_1 : decode cX5_book 1 = .ok (.iload_n 1, 1) := by decide +kernel
theorem dX5_book_2 : decode cX5_book 2 = .ok (.invokevirtual 235, 3) := by decide +kernel
theorem dX5_book_5 : decode cX5_book 5 = .ok (.istore_n 2, 1) := by decide +kernel
theorem dX5_book_6 : decode cX5_book 6 = .ok (.iload_n 2, 1) := by decide +kernel
theorem dX5_book_7 : decode cX5_book 7 = .ok (.ifCond .eq 9, 3) := by decide +kernel
theorem dX5_book_10 : decode cX5_book 10 = .ok (.aload_n 0, 1) := by decide +kernel
theorem dX5_book_11 : decode cX5_book 11 = .ok (.iload_n 2, 1) := by decide +kernel
theorem dX5_book_12 : decode cX5_book 12 = .ok (.invokevirtual 61, 3) := by decide +kernel
theorem dX5_book_15 : decode cX5_book 15 = .ok (.ireturn, 1) := by decide +kernel
theorem dX5_book_16 : decode cX5_book 16 = .ok (.aload_n 0, 1) := by decide +kernel
theorem dX5_book_17 : decode cX5_book 17 = .ok (.getfield 47, 3) := by decide +kernel
theorem dX5_book_20 : decode cX5_book 20 = .ok (.iload_n 1, 1) := by decide +kernel
theorem dX5_book_21 : decode cX5_book 21 = .ok (.aaload, 1) := by decide +kernel
theorem dX5_book_22 : decode cX5_book 22 = .ok (.astore_n 3, 1) := by decide +kernel
theorem dX5_book_23 : decode cX5_book 23 = .ok (.iconst 0, 1) := by decide +kernel
theorem dX5_book_24 : decode cX5_book 24 = .ok (.istore 4, 2) := by decide +kernel
theorem dX5_book_26 : decode cX5_book 26 = .ok (.iconst 0, 1) := by decide +kernel
theorem dX5_book_27 : decode cX5_book 27 = .ok (.istore 5, 2) := by decide +kernel
theorem dX5_book_29 : decode cX5_book 29 = .ok (.iload 5, 2) := by decide +kernel
theorem dX5_book_31 : decode cX5_book 31 = .ok (.bipush 24, 2) := by decide +kernel
theorem dX5_book_33 : decode cX5_book 33 = .ok (.if_icmp .ge 50, 3) := by decide +kernel
theorem dX5_book_36 : decode cX5_book 36 = .ok (.aload_n 0, 1) := by decide +kernel
theorem dX5_book_37 : decode cX5_book 37 = .ok (.getfield 10, 3) := by decide +kernel
theorem dX5_book_40 : decode cX5_book 40 = .ok (.iload 5, 2) := by decide +kernel
theorem dX5_book_42 : decode cX5_book 42 = .ok (.invokevirtual 108, 3) := by decide +kernel
theorem dX5_book_45 : decode cX5_book 45 = .ok (.ifCond .ne 32, 3) := by decide +kernel
theorem dX5_book_48 : decode cX5_book 48 = .ok (.iload 4, 2) := by decide +kernel
theorem dX5_book_50 : decode cX5_book 50 = .ok (.aload_n 3, 1) := by decide +kernel
theorem dX5_book_51 : decode cX5_book 51 = .ok (.getfield 238, 3) := by decide +kernel
theorem dX5_book_54 : decode cX5_book 54 = .ok (.if_icmp .ge 23, 3) := by decide +kernel
theorem dX5_book_57 : decode cX5_book 57 = .ok (.aload_n 3, 1) := by decide +kernel
theorem dX5_book_58 : decode cX5_book 58 = .ok (.iload 4, 2) := by decide +kernel
theorem dX5_book_60 : decode cX5_book 60 = .ok (.aload_n 0, 1) := by decide +kernel
theorem dX5_book_61 : decode cX5_book 61 = .ok (.getfield 10, 3) := by decide +kernel
theorem dX5_book_64 : decode cX5_book 64 = .ok (.getfield 112, 3) := by decide +kernel
theorem dX5_book_67 : decode cX5_book 67 = .ok (.iload 5, 2) := by decide +kernel
theorem dX5_book_69 : decode cX5_book 69 = .ok (.iaload, 1) := by decide +kernel
theorem dX5_book_70 : decode cX5_book 70 = .ok (.i2l, 1) := by decide +kernel
theorem dX5_book_71 : decode cX5_book 71 = .ok (.invokevirtual 245, 3) := by decide +kernel
theorem dX5_book_74 : decode cX5_book 74 = .ok (.iinc 4 1, 3) := by decide +kernel
theorem dX5_book_77 : decode cX5_book 77 = .ok (.iinc 5 1, 3) := by decide +kernel
theorem dX5_book_80 : decode cX5_book 80 = .ok (.goto (-51), 3) := by decide +kernel
theorem dX5_book_83 : decode cX5_book 83 = .ok (.iload 4, 2) := by decide +kernel
theorem dX5_book_85 : decode cX5_book 85 = .ok (.istore 5, 2) := by decide +kernel
theorem dX5_book_87 : decode cX5_book 87 = .ok (.iload 5, 2) := by decide +kernel
theorem dX5_book_89 : decode cX5_book 89 = .ok (.aload_n 3, 1) := by decide +kernel
theorem dX5_book_90 : decode cX5_book 90 = .ok (.getfield 238, 3) := by decide +kernel
theorem dX5_book_93 : decode cX5_book 93 = .ok (.if_icmp .ge 18, 3) := by decide +kernel
theorem dX5_book_96 : decode cX5_book 96 = .ok (.aload_n 3, 1) := by decide +kernel
theorem dX5_book_97 : decode cX5_book 97 = .ok (.iload 5, 2) := by decide +kernel
theorem dX5_book_99 : decode cX5_book 99 = .ok (.ldc2_w 270, 3) := by decide +kernel
theorem dX5_book_102 : decode cX5_book 102 = .ok (.invokevirtual 245, 3) := by decide +kernel
theorem dX5_book_105 : decode cX5_book 105 = .ok (.iinc 5 1, 3) := by decide +kernel
theorem dX5_book_108 : decode cX5_book 108 = .ok (.goto (-21), 3) := by decide +kernel
theorem dX5_book_111 : decode cX5_book 111 = .ok (.aload_n 0, 1) := by decide +kernel
theorem dX5_book_112 : decode cX5_book 112 = .ok (.getfield 10, 3) := by decide +kernel
theorem dX5_book_115 : decode cX5_book 115 = .ok (.invokevirtual 126, 3) := by decide +kernel
theorem dX5_book_118 : decode cX5_book 118 = .ok (.invokestatic 130, 3) := by decide +kernel
theorem dX5_book_121 : decode cX5_book 121 = .ok (.ireturn, 1) := by decide +kernel
theorem dX5_read_0 : decode cX5_read 0 = .ok (.aload_n 0, 1) := by decide +kernel
theorem dX5_read_1 : decode cX5_read 1 = .ok (.iload_n 1, 1) := by decide +kernel
theorem dX5_read_2 : decode cX5_read 2 = .ok (.invokevirtual 235, 3) := by decide +kernel
theorem dX5_read_5 : decode cX5_read 5 = .ok (.istore_n 2, 1) := by decide +kernel
theorem dX5_read_6 : decode cX5_read 6 = .ok (.iload_n 2, 1) := by decide +kernel
theorem dX5_read_7 : decode cX5_read 7 = .ok (.ifCond .eq 9, 3) := by decide +kernel
theorem dX5_read_10 : decode cX5_read 10 = .ok (.aload_n 0, 1) := by decide +kernel
theorem dX5_read_11 : decode cX5_read 11 = .ok (.iload_n 2, 1) := by decide +kernel
theorem dX5_read_12 : decode cX5_read 12 = .ok (.invokevirtual 61, 3) := by decide +kernel
theorem dX5_read_15 : decode cX5_read 15 = .ok (.ireturn, 1) := by decide +kernel
theorem dX5_read_16 : decode cX5_read 16 = .ok (.aload_n 0, 1) := by decide +kernel
theorem dX5_read_17 : decode cX5_read 17 = .ok (.getfield 47, 3) := by decide +kernel
theorem dX5_read_20 : decode cX5_read 20 = .ok (.iload_n 1, 1) := by decide +kernel
theorem dX5_read_21 : decode cX5_read 21 = .ok (.aaload, 1) := by decide +kernel
theorem dX5_read_22 : decode cX5_read 22 = .ok (.astore_n 3, 1) := by decide +kernel
theorem dX5_read_23 : decode cX5_read 23 = .ok (.aload_n 0, 1) := by decide +kernel
theorem dX5_read_24 : decode cX5_read 24 = .ok (.getfield 25, 3) := by decide +kernel
theorem dX5_read_27 : decode cX5_read 27 = .ok (.aload_n 0, 1) := by decide +kernel
theorem dX5_read_28 : decode cX5_read 28 = .ok (.getfield 10, 3) := by decide +kernel
theorem dX5_read_31 : decode cX5_read 31 = .ok (.invokevirtual 146, 3) := by decide +kernel
theorem dX5_read_34 : decode cX5_read 34 = .ok (.aload_n 0, 1) := by decide +kernel
theorem dX5_read_35 : decode cX5_read 35 = .ok (.getfield 10, 3) := by decide +kernel
theorem dX5_read_38 : decode cX5_read 38 = .ok (.invokevirtual 126, 3) := by decide +kernel
theorem dX5_read_41 : decode cX5_read 41 = .ok (.istore 4, 2) := by decide +kernel
theorem dX5_read_43 : decode cX5_read 43 = .ok (.iconst 0, 1) := by decide +kernel
theorem dX5_read_44 : decode cX5_read 44 = .ok (.istore 5, 2) := by decide +kernel
theorem dX5_read_46 : decode cX5_read 46 = .ok (.iload 5, 2) := by decide +kernel
theorem dX5_read_48 : decode cX5_read 48 = .ok (.aload_n 3, 1) := by decide +kernel
theorem dX5_read_49 : decode cX5_read 49 = .ok (.getfield 238, 3) := by decide +kernel
theorem dX5_read_52 : decode cX5_read 52 = .ok (.if_icmp .ge 91, 3) := by decide +kernel
theorem dX5_read_55 : decode cX5_read 55 = .ok (.aload_n 3, 1) := by decide +kernel
theorem dX5_read_56 : decode cX5_read 56 = .ok (.getfield 241, 3) := by decide +kernel
theorem dX5_read_59 : decode cX5_read 59 = .ok (.iload 5, 2) := by decide +kernel
theorem dX5_read_61 : decode cX5_read 61 = .ok (.laload, 1) := by decide +kernel
theorem dX5_read_62 : decode cX5_read 62 = .ok (.lstore 6, 2) := by decide +kernel
theorem dX5_read_64 : decode cX5_read 64 = .ok (.lload 6, 2) := by decide +kernel
theorem dX5_read_66 : decode cX5_read 66 = .ok (.lconst 0, 1) := by decide +kernel
theorem dX5_read_67 : decode cX5_read 67 = .ok (.lcmp, 1) := by decide +kernel
theorem dX5_read_68 : decode cX5_read 68 = .ok (.ifCond .lt 27, 3) := by decide +kernel
theorem dX5_read_71 : decode cX5_read 71 = .ok (.lload 6, 2) := by decide +kernel
theorem dX5_read_73 : decode cX5_read 73 = .ok (.ldc2_w 272, 3) := by decide +kernel
theorem dX5_read_76 : decode cX5_read 76 = .ok (.lcmp, 1) := by decide +kernel
theorem dX5_read_77 : decode cX5_read 77 = .ok (.ifCond .ge 18, 3) := by decide +kernel
theorem dX5_read_80 : decode cX5_read 80 = .ok (.iload 4, 2) := by decide +kernel
theorem dX5_read_82 : decode cX5_read 82 = .ok (.lload 6, 2) := by decide +kernel
theorem dX5_read_84 : decode cX5_read 84 = .ok (.l2i, 1) := by decide +kernel
theorem dX5_read_85 : decode cX5_read 85 = .ok (.invokestatic 160, 3) := by decide +kernel
theorem dX5_read_88 : decode cX5_read 88 = .ok (.ifCond .eq 7, 3) := by decide +kernel
theorem dX5_read_91 : decode cX5_read 91 = .ok (.iconst 1, 1) := by decide +kernel
theorem dX5_read_92 : decode cX5_read 92 = .ok (.goto 4, 3) := by decide +kernel
theorem dX5_read_95 : decode cX5_read 95 = .ok (.iconst 0, 1) := by decide +kernel
theorem dX5_read_96 : decode cX5_read 96 = .ok (.istore 8, 2) := by decide +kernel
theorem dX5_read_98 : decode cX5_read 98 = .ok (.iload 8, 2) := by decide +kernel
theorem dX5_read_100 : decode cX5_read 100 = .ok (.ifCond .eq 20, 3) := by decide +kernel
theorem dX5_read_103 : decode cX5_read 103 = .ok (.aload_n 0, 1) := by decide +kernel
theorem dX5_read_104 : decode cX5_read 104 = .ok (.getfield 25, 3) := by decide +kernel
theorem dX5_read_107 : decode cX5_read 107 = .ok (.getfield 274, 3) := by decide +kernel
theorem dX5_read_110 : decode cX5_read 110 = .ok (.lload 6, 2) := by decide +kernel
theorem dX5_read_112 : decode cX5_read 112 = .ok (.l2i, 1) := by decide +kernel
theorem dX5_read_113 : decode cX5_read 113 = .ok (.iaload, 1) := by decide +kernel
theorem dX5_read_114 : decode cX5_read 114 = .ok (.iload 4, 2) := by decide +kernel
theorem dX5_read_116 : decode cX5_read 116 = .ok (.iand, 1) := by decide +kernel
theorem dX5_read_117 : decode cX5_read 117 = .ok (.ifCond .eq 8, 3) := by decide +kernel
theorem dX5_read_120 : decode cX5_read 120 = .ok (.iconst 1, 1) := by decide +kernel
theorem dX5_read_121 : decode cX5_read 121 = .ok (.iload 5, 2) := by decide +kernel
theorem dX5_read_123 : decode cX5_read 123 = .ok (.iadd, 1) := by decide +kernel
theorem dX5_read_124 : decode cX5_read 124 = .ok (.ireturn, 1) := by decide +kernel
theorem dX5_read_125 : decode cX5_read 125 = .ok (.iload 4, 2) := by decide +kernel
theorem dX5_read_127 : decode cX5_read 127 = .ok (.iconst 1, 1) := by decide +kernel
theorem dX5_read_128 : decode cX5_read 128 = .ok (.lload 6, 2) := by decide +kernel
theorem dX5_read_130 : decode cX5_read 130 = .ok (.l2i, 1) := by decide +kernel
theorem dX5_read_131 : decode cX5_read 131 = .ok (.ishl, 1) := by decide +kernel
theorem dX5_read_132 : decode cX5_read 132 = .ok (.iconst (-1), 1) := by decide +kernel
theorem dX5_read_133 : decode cX5_read 133 = .ok (.ixor, 1) := by decide +kernel
theorem dX5_read_134 : decode cX5_read 134 = .ok (.iand, 1) := by decide +kernel
theorem dX5_read_135 : decode cX5_read 135 = .ok (.istore 4, 2) := by decide +kernel
theorem dX5_read_137 : decode cX5_read 137 = .ok (.iinc 5 1, 3) := by decide +kernel
theorem dX5_read_140 : decode cX5_read 140 = .ok (.goto (-94), 3) := by decide +kernel
theorem dX5_read_143 : decode cX5_read 143 = .ok (.iconst 0, 1) := by decide +kernel
theorem dX5_read_144 : decode cX5_read 144 = .ok (.ireturn, 1) := by decide +kernel
theorem dX5_image_0 : decode cX5_image 0 = .ok (.aload_n 0, 1) := by decide +kernel
theorem dX5_image_1 : decode cX5_image 1 = .ok (.getfield 16, 3) := by decide +kernel
theorem dX5_image_4 : decode cX5_image 4 = .ok (.aload_n 0, 1) := by decide +kernel
theorem dX5_image_5 : decode cX5_image 5 = .ok (.getfield 10, 3) := by decide +kernel
theorem dX5_image_8 : decode cX5_image 8 = .ok (.invokevirtual 221, 3) := by decide +kernel
theorem dX5_image_11 : decode cX5_image 11 = .ok (.aload_n 0, 1) := by decide +kernel
theorem dX5_image_12 : decode cX5_image 12 = .ok (.iconst 1, 1) := by decide +kernel
theorem dX5_image_13 : decode cX5_image 13 = .ok (.putfield 277, 3) := by decide +kernel
theorem dX5_image_16 : decode cX5_image 16 = .ok (.iconst 1, 1) := by decide +kernel
theorem dX5_image_17 : decode cX5_image 17 = .ok (.ireturn, 1) := by decide +kernel
theorem dX5_undo_0 : decode cX5_undo 0 = .ok (.aload_n 0, 1) := by decide +kernel
theorem dX5_undo_1 : decode cX5_undo 1 = .ok (.getfield 277, 3) := by decide +kernel
theorem dX5_undo_4 : decode cX5_undo 4 = .ok (.ifCond .ne 10, 3) := by decide +kernel
theorem dX5_undo_7 : decode cX5_undo 7 = .ok (.aload_n 0, 1) := by decide +kernel
theorem dX5_undo_8 : decode cX5_undo 8 = .ok (.ldc 111, 2) := by decide +kernel
theorem dX5_undo_10 : decode cX5_undo 10 = .ok (.invokevirtual 61, 3) := by decide +kernel
theorem dX5_undo_13 : decode cX5_undo 13 = .ok (.ireturn, 1) := by decide +kernel
theorem dX5_undo_14 : decode cX5_undo 14 = .ok (.aload_n 0, 1) := by decide +kernel
theorem dX5_undo_15 : decode cX5_undo 15 = .ok (.getfield 10, 3) := by decide +kernel
theorem dX5_undo_18 : decode cX5_undo 18 = .ok (.aload_n 0, 1) := by decide +kernel
theorem dX5_undo_19 : decode cX5_undo 19 = .ok (.getfield 16, 3) := by decide +kernel
theorem dX5_undo_22 : decode cX5_undo 22 = .ok (.invokevirtual 221, 3) := by decide +kernel
theorem dX5_undo_25 : decode cX5_undo 25 = .ok (.aload_n 0, 1) := by decide +kernel
theorem dX5_undo_26 : decode cX5_undo 26 = .ok (.getfield 10, 3) := by decide +kernel
theorem dX5_undo_29 : decode cX5_undo 29 = .ok (.getfield 65, 3) := by decide +kernel
theorem dX5_undo_32 : decode cX5_undo 32 = .ok (.ireturn, 1) := by decide +kernel
theorem dX5_tear_0 : decode cX5_tear 0 = .ok (.aload_n 0, 1) := by decide +kernel
theorem dX5_tear_1 : decode cX5_tear 1 = .ok (.getfield 277, 3) := by decide +kernel
theorem dX5_tear_4 : decode cX5_tear 4 = .ok (.ifCond .eq 7, 3) := by decide +kernel
theorem dX5_tear_7 : decode cX5_tear 7 = .ok (.iconst 1, 1) := by decide +kernel
theorem dX5_tear_8 : decode cX5_tear 8 = .ok (.goto 4, 3) := by decide +kernel
theorem dX5_tear_11 : decode cX5_tear 11 = .ok (.iconst 0, 1) := by decide +kernel
theorem dX5_tear_12 : decode cX5_tear 12 = .ok (.istore_n 1, 1) := by decide +kernel
theorem dX5_tear_13 : decode cX5_tear 13 = .ok (.aload_n 0, 1) := by decide +kernel
theorem dX5_tear_14 : decode cX5_tear 14 = .ok (.iconst 0, 1) := by decide +kernel
theorem dX5_tear_15 : decode cX5_tear 15 = .ok (.putfield 277, 3) := by decide +kernel
theorem dX5_tear_18 : decode cX5_tear 18 = .ok (.iload_n 1, 1) := by decide +kernel
theorem dX5_tear_19 : decode cX5_tear 19 = .ok (.ireturn, 1) := by decide +kernel
theorem dX5_count_0 : decode cX5_count 0 = .ok (.iload_n 1, 1) := by decide +kernel
theorem dX5_count_1 : decode cX5_count 1 = .ok (.tableswitch 69 0 3 #[31, 39, 47, 58], 31) := by decide +kernel
theorem dX5_count_32 : decode cX5_count 32 = .ok (.aload_n 0, 1) := by decide +kernel
theorem dX5_count_33 : decode cX5_count 33 = .ok (.getfield 10, 3) := by decide +kernel
theorem dX5_count_36 : decode cX5_count 36 = .ok (.getfield 65, 3) := by decide +kernel
theorem dX5_count_39 : decode cX5_count 39 = .ok (.ireturn, 1) := by decide +kernel
theorem dX5_count_40 : decode cX5_count 40 = .ok (.aload_n 0, 1) := by decide +kernel
theorem dX5_count_41 : decode cX5_count 41 = .ok (.getfield 32, 3) := by decide +kernel
theorem dX5_count_44 : decode cX5_count 44 = .ok (.getfield 214, 3) := by decide +kernel
theorem dX5_count_47 : decode cX5_count 47 = .ok (.ireturn, 1) := by decide +kernel
theorem dX5_count_48 : decode cX5_count 48 = .ok (.aload_n 0, 1) := by decide +kernel
theorem dX5_count_49 : decode cX5_count 49 = .ok (.getfield 10, 3) := by decide +kernel
theorem dX5_count_52 : decode cX5_count 52 = .ok (.invokevirtual 126, 3) := by decide +kernel
theorem dX5_count_55 : decode cX5_count 55 = .ok (.invokestatic 130, 3) := by decide +kernel
theorem dX5_count_58 : decode cX5_count 58 = .ok (.ireturn, 1) := by decide +kernel
theorem dX5_count_59 : decode cX5_count 59 = .ok (.aload_n 0, 1) := by decide +kernel
theorem dX5_count_60 : decode cX5_count 60 = .ok (.getfield 10, 3) := by decide +kernel
theorem dX5_count_63 : decode cX5_count 63 = .ok (.getfield 135, 3) := by decide +kernel
theorem dX5_count_66 : decode cX5_count 66 = .ok (.invokestatic 130, 3) := by decide +kernel
theorem dX5_count_69 : decode cX5_count 69 = .ok (.ireturn, 1) := by decide +kernel
theorem dX5_count_70 : decode cX5_count 70 = .ok (.aload_n 0, 1) := by decide +kernel
theorem dX5_count_71 : decode cX5_count 71 = .ok (.ldc 60, 2) := by decide +kernel
theorem dX5_count_73 : decode cX5_count 73 = .ok (.invokevirtual 61, 3) := by decide +kernel
theorem dX5_count_76 : decode cX5_count 76 = .ok (.ireturn, 1) := by decide +kernel
theorem dX5_status_0 : decode cX5_status 0 = .ok (.iload_n 1, 1) := by decide +kernel
theorem dX5_status_1 : decode cX5_status 1 = .ok (.iconst (-1), 1) := by decide +kernel
theorem dX5_status_2 : decode cX5_status 2 = .ok (.if_icmp .lt 9, 3) := by decide +kernel
theorem dX5_status_5 : decode cX5_status 5 = .ok (.iload_n 1, 1) := by decide +kernel
theorem dX5_status_6 : decode cX5_status 6 = .ok (.bipush 7, 2) := by decide +kernel
theorem dX5_status_8 : decode cX5_status 8 = .ok (.if_icmp .lt 10, 3) := by decide +kernel
theorem dX5_status_11 : decode cX5_status 11 = .ok (.aload_n 0, 1) := by decide +kernel
theorem dX5_status_12 : decode cX5_status 12 = .ok (.ldc 60, 2) := by decide +kernel
theorem dX5_status_14 : decode cX5_status 14 = .ok (.invokevirtual 61, 3) := by decide +kernel
theorem dX5_status_17 : decode cX5_status 17 = .ok (.ireturn, 1) := by decide +kernel
theorem dX5_status_18 : decode cX5_status 18 = .ok (.iload_n 1, 1) := by decide +kernel
theorem dX5_status_19 : decode cX5_status 19 = .ok (.ifCond .lt 10, 3) := by decide +kernel
theorem dX5_status_22 : decode cX5_status 22 = .ok (.aload_n 0, 1) := by decide +kernel
theorem dX5_status_23 : decode cX5_status 23 = .ok (.getfield 51, 3) := by decide +kernel
theorem dX5_status_26 : decode cX5_status 26 = .ok (.iload_n 1, 1) := by decide +kernel
theorem dX5_status_27 : decode cX5_status 27 = .ok (.iaload, 1) := by decide +kernel
theorem dX5_status_28 : decode cX5_status 28 = .ok (.ireturn, 1) := by decide +kernel
theorem dX5_status_29 : decode cX5_status 29 = .ok (.iconst 0, 1) := by decide +kernel
theorem dX5_status_30 : decode cX5_status 30 = .ok (.istore_n 2, 1) := by decide +kernel
theorem dX5_status_31 : decode cX5_status 31 = .ok (.iconst 0, 1) := by decide +kernel
theorem dX5_status_32 : decode cX5_status 32 = .ok (.istore_n 3, 1) := by decide +kernel
theorem dX5_status_33 : decode cX5_status 33 = .ok (.iload_n 3, 1) := by decide +kernel
theorem dX5_status_34 : decode cX5_status 34 = .ok (.bipush 7, 2) := by decide +kernel
theorem dX5_status_36 : decode cX5_status 36 = .ok (.if_icmp .ge 18, 3) := by decide +kernel
theorem dX5_status_39 : decode cX5_status 39 = .ok (.iload_n 2, 1) := by decide +kernel
theorem dX5_status_40 : decode cX5_status 40 = .ok (.aload_n 0, 1) := by decide +kernel
theorem dX5_status_41 : decode cX5_status 41 = .ok (.getfield 51, 3) := by decide +kernel
theorem dX5_status_44 : decode cX5_status 44 = .ok (.iload_n 3, 1) := by decide +kernel
theorem dX5_status_45 : decode cX5_status 45 = .ok (.iaload, 1) := by decide +kernel
theorem dX5_status_46 : decode cX5_status 46 = .ok (.iadd, 1) := by decide +kernel
theorem dX5_status_47 : decode cX5_status 47 = .ok (.istore_n 2, 1) := by decide +kernel
theorem dX5_status_48 : decode cX5_status 48 = .ok (.iinc 3 1, 3) := by decide +kernel
theorem dX5_status_51 : decode cX5_status 51 = .ok (.goto (-18), 3) := by decide +kernel
theorem dX5_status_54 : decode cX5_status 54 = .ok (.iload_n 2, 1) := by decide +kernel
theorem dX5_status_55 : decode cX5_status 55 = .ok (.ireturn, 1) := by decide +kernel
theorem dX5_told_0 : decode cX5_told 0 = .ok (.ldc 60, 2) := by decide +kernel
theorem dX5_told_2 : decode cX5_told 2 = .ok (.iload_n 1, 1) := by decide +kernel
theorem dX5_told_3 : decode cX5_told 3 = .ok (.isub, 1) := by decide +kernel
theorem dX5_told_4 : decode cX5_told 4 = .ok (.istore_n 2, 1) := by decide +kernel
theorem dX5_told_5 : decode cX5_told 5 = .ok (.iload_n 2, 1) := by decide +kernel
theorem dX5_told_6 : decode cX5_told 6 = .ok (.ifCond .lt 19, 3) := by decide +kernel
theorem dX5_told_9 : decode cX5_told 9 = .ok (.iload_n 2, 1) := by decide +kernel
theorem dX5_told_10 : decode cX5_told 10 = .ok (.bipush 7, 2) := by decide +kernel
theorem dX5_told_12 : decode cX5_told 12 = .ok (.if_icmp .ge 13, 3) := by decide +kernel
theorem dX5_told_15 : decode cX5_told 15 = .ok (.aload_n 0, 1) := by decide +kernel
theorem dX5_told_16 : decode cX5_told 16 = .ok (.getfield 51, 3) := by decide +kernel
theorem dX5_told_19 : decode cX5_told 19 = .ok (.iload_n 2, 1) := by decide +kernel
theorem dX5_told_20 : decode cX5_told 20 = .ok (.dup2, 1) := by decide +kernel
theorem dX5_told_21 : decode cX5_told 21 = .ok (.iaload, 1) := by decide +kernel
theorem dX5_told_22 : decode cX5_told 22 = .ok (.iconst 1, 1) := by decide +kernel
theorem dX5_told_23 : decode cX5_told 23 = .ok (.iadd, 1) := by decide +kernel
theorem dX5_told_24 : decode cX5_told 24 = .ok (.iastore, 1) := by decide +kernel
theorem dX5_told_25 : decode cX5_told 25 = .ok (.iload_n 1, 1) := by decide +kernel
theorem dX5_told_26 : decode cX5_told 26 = .ok (.ireturn, 1) := by decide +kernel
theorem dX5_findingAgainstTaking_0 : decode cX5_findingAgainstTaking 0 = .ok (.aload_n 0, 1) := by decide +kernel
theorem dX5_findingAgainstTaking_1 : decode cX5_findingAgainstTaking 1 = .ok (.getfield 10, 3) := by decide +kernel
theorem dX5_findingAgainstTaking_4 : decode cX5_findingAgainstTaking 4 = .ok (.iload_n 1, 1) := by decide +kernel
theorem dX5_findingAgainstTaking_5 : decode cX5_findingAgainstTaking 5 = .ok (.invokevirtual 73, 3) := by decide +kernel
theorem dX5_findingAgainstTaking_8 : decode cX5_findingAgainstTaking 8 = .ok (.ifCond .eq 12, 3) := by decide +kernel
theorem dX5_findingAgainstTaking_11 : decode cX5_findingAgainstTaking 11 = .ok (.iload_n 2, 1) := by decide +kernel
theorem dX5_findingAgainstTaking_12 : decode cX5_findingAgainstTaking 12 = .ok (.ifCond .lt 8, 3) := by decide +kernel
theorem dX5_findingAgainstTaking_15 : decode cX5_findingAgainstTaking 15 = .ok (.iload_n 2, 1) := by decide +kernel
theorem dX5_findingAgainstTaking_16 : decode cX5_findingAgainstTaking 16 = .ok (.iconst 2, 1) := by decide +kernel
theorem dX5_findingAgainstTaking_17 : decode cX5_findingAgainstTaking 17 = .ok (.if_icmp .le 6, 3) := by decide +kernel
theorem dX5_findingAgainstTaking_20 : decode cX5_findingAgainstTaking 20 = .ok (.ldc 60, 2) := by decide +kernel
theorem dX5_findingAgainstTaking_22 : decode cX5_findingAgainstTaking 22 = .ok (.ireturn, 1) := by decide +kernel
theorem dX5_findingAgainstTaking_23 : decode cX5_findingAgainstTaking 23 = .ok (.aload_n 0, 1) := by decide +kernel
theorem dX5_findingAgainstTaking_24 : decode cX5_findingAgainstTaking 24 = .ok (.getfield 10, 3) := by decide +kernel
theorem dX5_findingAgainstTaking_27 : decode cX5_findingAgainstTaking 27 = .ok (.iload_n 1, 1) := by decide +kernel
theorem dX5_findingAgainstTaking_28 : decode cX5_findingAgainstTaking 28 = .ok (.invokevirtual 115, 3) := by decide +kernel
theorem dX5_findingAgainstTaking_31 : decode cX5_findingAgainstTaking 31 = .ok (.ifCond .eq 19, 3) := by decide +kernel
theorem dX5_findingAgainstTaking_34 : decode cX5_findingAgainstTaking 34 = .ok (.iload_n 2, 1) := by decide +kernel
theorem dX5_findingAgainstTaking_35 : decode cX5_findingAgainstTaking 35 = .ok (.iconst 2, 1) := by decide +kernel
theorem dX5_findingAgainstTaking_36 : decode cX5_findingAgainstTaking 36 = .ok (.if_icmp .ne 17, 3) := by decide +kernel
theorem dX5_findingAgainstTaking_39 : decode cX5_findingAgainstTaking 39 = .ok (.aload_n 0, 1) := by decide +kernel
theorem dX5_findingAgainstTaking_40 : decode cX5_findingAgainstTaking 40 = .ok (.getfield 10, 3) := by decide +kernel
theorem dX5_findingAgainstTaking_43 : decode cX5_findingAgainstTaking 43 = .ok (.iload_n 1, 1) := by decide +kernel
theorem dX5_findingAgainstTaking_44 : decode cX5_findingAgainstTaking 44 = .ok (.invokevirtual 199, 3) := by decide +kernel
theorem dX5_findingAgainstTaking_47 : decode cX5_findingAgainstTaking 47 = .ok (.ifCond .ne 6, 3) := by decide +kernel
theorem dX5_findingAgainstTaking_50 : decode cX5_findingAgainstTaking 50 = .ok (.ldc 118, 2) := by decide +kernel
theorem dX5_findingAgainstTaking_52 : decode cX5_findingAgainstTaking 52 = .ok (.ireturn, 1) := by decide +kernel
theorem dX5_findingAgainstTaking_53 : decode cX5_findingAgainstTaking 53 = .ok (.iconst 0, 1) := by decide +kernel
theorem dX5_findingAgainstTaking_54 : decode cX5_findingAgainstTaking 54 = .ok (.ireturn, 1) := by decide +kernel
theorem dX5_findingAgainstSheet_0 : decode cX5_findingAgainstSheet 0 = .ok (.iload_n 1, 1) := by decide +kernel
theorem dX5_findingAgainstSheet_1 : decode cX5_findingAgainstSheet 1 = .ok (.invokestatic 228, 3) := by decide +kernel
theorem dX5_findingAgainstSheet_4 : decode cX5_findingAgainstSheet 4 = .ok (.ifCond .ne 6, 3) := by decide +kernel
theorem dX5_findingAgainstSheet_7 : decode cX5_findingAgainstSheet 7 = .ok (.ldc 60, 2) := by decide +kernel
theorem dX5_findingAgainstSheet_9 : decode cX5_findingAgainstSheet 9 = .ok (.ireturn, 1) := by decide +kernel
theorem dX5_findingAgainstSheet_10 : decode cX5_findingAgainstSheet 10 = .ok (.aload_n 0, 1) := by decide +kernel
theorem dX5_findingAgainstSheet_11 : decode cX5_findingAgainstSheet 11 = .ok (.getfield 47, 3) := by decide +kernel
theorem dX5_findingAgainstSheet_14 : decode cX5_findingAgainstSheet 14 = .ok (.iload_n 1, 1) := by decide +kernel
theorem dX5_findingAgainstSheet_15 : decode cX5_findingAgainstSheet 15 = .ok (.aaload, 1) := by decide +kernel
theorem dX5_findingAgainstSheet_16 : decode cX5_findingAgainstSheet 16 = .ok (.invokevirtual 248, 3) := by decide +kernel
theorem dX5_findingAgainstSheet_19 : decode cX5_findingAgainstSheet 19 = .ok (.ifCond .eq 8, 3) := by decide +kernel
theorem dX5_findingAgainstSheet_22 : decode cX5_findingAgainstSheet 22 = .ok (.ldc 252, 2) := by decide +kernel
theorem dX5_findingAgainstSheet_24 : decode cX5_findingAgainstSheet 24 = .ok (.goto 4, 3) := by decide +kernel
theorem dX5_findingAgainstSheet_27 : decode cX5_findingAgainstSheet 27 = .ok (.iconst 0, 1) := by decide +kernel
theorem dX5_findingAgainstSheet_28 : decode cX5_findingAgainstSheet 28 = .ok (.ireturn, 1) := by decide +kernel
theorem dX5_howManyFall_0 : decode cX5_howManyFall 0 = .ok (.aload_n 0, 1) := by decide +kernel
theorem dX5_howManyFall_1 : decode cX5_howManyFall 1 = .ok (.getfield 25, 3) := by decide +kernel
theorem dX5_howManyFall_4 : decode cX5_howManyFall 4 = .ok (.iload_n 1, 1) := by decide +kernel
theorem dX5_howManyFall_5 : decode cX5_howManyFall 5 = .ok (.iload_n 2, 1) := by decide +kernel
theorem dX5_howManyFall_6 : decode cX5_howManyFall 6 = .ok (.invokevirtual 150, 3) := by decide +kernel
theorem dX5_howManyFall_9 : decode cX5_howManyFall 9 = .ok (.istore_n 3, 1) := by decide +kernel
theorem dX5_howManyFall_10 : decode cX5_howManyFall 10 = .ok (.aload_n 0, 1) := by decide +kernel
theorem dX5_howManyFall_11 : decode cX5_howManyFall 11 = .ok (.getfield 10, 3) := by decide +kernel
theorem dX5_howManyFall_14 : decode cX5_howManyFall 14 = .ok (.iload_n 3, 1) := by decide +kernel
theorem dX5_howManyFall_15 : decode cX5_howManyFall 15 = .ok (.iload_n 1, 1) := by decide +kernel
theorem dX5_howManyFall_16 : decode cX5_howManyFall 16 = .ok (.iload_n 2, 1) := by decide +kernel
theorem dX5_howManyFall_17 : decode cX5_howManyFall 17 = .ok (.invokevirtual 153, 3) := by decide +kernel
theorem dX5_howManyFall_20 : decode cX5_howManyFall 20 = .ok (.invokestatic 130, 3) := by decide +kernel
theorem dX5_howManyFall_23 : decode cX5_howManyFall 23 = .ok (.ireturn, 1) := by decide +kernel
theorem dX5_harm_0 : decode cX5_harm 0 = .ok (.aload_n 0, 1) := by decide +kernel
theorem dX5_harm_1 : decode cX5_harm 1 = .ok (.getfield 25, 3) := by decide +kernel
theorem dX5_harm_4 : decode cX5_harm 4 = .ok (.iload_n 1, 1) := by decide +kernel
theorem dX5_harm_5 : decode cX5_harm 5 = .ok (.iload_n 2, 1) := by decide +kernel
theorem dX5_harm_6 : decode cX5_harm 6 = .ok (.invokevirtual 150, 3) := by decide +kernel
theorem dX5_harm_9 : decode cX5_harm 9 = .ok (.istore_n 3, 1) := by decide +kernel
theorem dX5_harm_10 : decode cX5_harm 10 = .ok (.aload_n 0, 1) := by decide +kernel
theorem dX5_harm_11 : decode cX5_harm 11 = .ok (.iload_n 1, 1) := by decide +kernel
theorem dX5_harm_12 : decode cX5_harm 12 = .ok (.iload_n 2, 1) := by decide +kernel
theorem dX5_harm_13 : decode cX5_harm 13 = .ok (.invokevirtual 187, 3) := by decide +kernel
theorem dX5_harm_16 : decode cX5_harm 16 = .ok (.bipush 13, 2) := by decide +kernel
theorem dX5_harm_18 : decode cX5_harm 18 = .ok (.imul, 1) := by decide +kernel
theorem dX5_harm_19 : decode cX5_harm 19 = .ok (.iload_n 3, 1) := by decide +kernel
theorem dX5_harm_20 : decode cX5_harm 20 = .ok (.invokestatic 130, 3) := by decide +kernel
theorem dX5_harm_23 : decode cX5_harm 23 = .ok (.iadd, 1) := by decide +kernel
theorem dX5_harm_24 : decode cX5_harm 24 = .ok (.ireturn, 1) := by decide +kernel
theorem dX5_betterFacing_0 : decode cX5_betterFacing 0 = .ok (.aload_n 0, 1) := by decide +kernel
theorem dX5_betterFacing_1 : decode cX5_betterFacing 1 = .ok (.getfield 25, 3) := by decide +kernel
theorem dX5_betterFacing_4 : decode cX5_betterFacing 4 = .ok (.aload_n 0, 1) := by decide +kernel
theorem dX5_betterFacing_5 : decode cX5_betterFacing 5 = .ok (.getfield 10, 3) := by decide +kernel
theorem dX5_betterFacing_8 : decode cX5_betterFacing 8 = .ok (.getfield 135, 3) := by decide +kernel
theorem dX5_betterFacing_11 : decode cX5_betterFacing 11 = .ok (.iload_n 2, 1) := by decide +kernel
theorem dX5_betterFacing_12 : decode cX5_betterFacing 12 = .ok (.ixor, 1) := by decide +kernel
theorem dX5_betterFacing_13 : decode cX5_betterFacing 13 = .ok (.invokevirtual 166, 3) := by decide +kernel
theorem dX5_betterFacing_16 : decode cX5_betterFacing 16 = .ok (.aload_n 0, 1) := by decide +kernel
theorem dX5_betterFacing_17 : decode cX5_betterFacing 17 = .ok (.getfield 25, 3) := by decide +kernel
theorem dX5_betterFacing_20 : decode cX5_betterFacing 20 = .ok (.aload_n 0, 1) := by decide +kernel
theorem dX5_betterFacing_21 : decode cX5_betterFacing 21 = .ok (.getfield 10, 3) := by decide +kernel
theorem dX5_betterFacing_24 : decode cX5_betterFacing 24 = .ok (.getfield 135, 3) := by decide +kernel
theorem dX5_betterFacing_27 : decode cX5_betterFacing 27 = .ok (.iload_n 1, 1) := by decide +kernel
theorem dX5_betterFacing_28 : decode cX5_betterFacing 28 = .ok (.ixor, 1) := by decide +kernel
theorem dX5_betterFacing_29 : decode cX5_betterFacing 29 = .ok (.invokevirtual 166, 3) := by decide +kernel
theorem dX5_betterFacing_32 : decode cX5_betterFacing 32 = .ok (.if_icmp .ge 7, 3) := by decide +kernel
theorem dX5_betterFacing_35 : decode cX5_betterFacing 35 = .ok (.iload_n 2, 1) := by decide +kernel
theorem dX5_betterFacing_36 : decode cX5_betterFacing 36 = .ok (.goto 4, 3) := by decide +kernel
theorem dX5_betterFacing_39 : decode cX5_betterFacing 39 = .ok (.iload_n 1, 1) := by decide +kernel
theorem dX5_betterFacing_40 : decode cX5_betterFacing 40 = .ok (.ireturn, 1) := by decide +kernel
theorem dX5_isPlace_0 : decode cX5_isPlace 0 = .ok (.iload_n 0, 1) := by decide +kernel
theorem dX5_isPlace_1 : decode cX5_isPlace 1 = .ok (.ifCond .lt 13, 3) := by decide +kernel
theorem dX5_isPlace_4 : decode cX5_isPlace 4 = .ok (.iload_n 0, 1) := by decide +kernel
theorem dX5_isPlace_5 : decode cX5_isPlace 5 = .ok (.bipush 24, 2) := by decide +kernel
theorem dX5_isPlace_7 : decode cX5_isPlace 7 = .ok (.if_icmp .ge 7, 3) := by decide +kernel
theorem dX5_isPlace_10 : decode cX5_isPlace 10 = .ok (.iconst 1, 1) := by decide +kernel
theorem dX5_isPlace_11 : decode cX5_isPlace 11 = .ok (.goto 4, 3) := by decide +kernel
theorem dX5_isPlace_14 : decode cX5_isPlace 14 = .ok (.iconst 0, 1) := by decide +kernel
theorem dX5_isPlace_15 : decode cX5_isPlace 15 = .ok (.ireturn, 1) := by decide +kernel
theorem dX5_isSheet_0 : decode cX5_isSheet 0 = .ok (.iload_n 0, 1) := by decide +kernel
theorem dX5_isSheet_1 : decode cX5_isSheet 1 = .ok (.ifCond .lt 12, 3) := by decide +kernel
theorem dX5_isSheet_4 : decode cX5_isSheet 4 = .ok (.iload_n 0, 1) := by decide +kernel
theorem dX5_isSheet_5 : decode cX5_isSheet 5 = .ok (.iconst 4, 1) := by decide +kernel
theorem dX5_isSheet_6 : decode cX5_isSheet 6 = .ok (.if_icmp .ge 7, 3) := by decide +kernel
theorem dX5_isSheet_9 : decode cX5_isSheet 9 = .ok (.iconst 1, 1) := by decide +kernel
theorem dX5_isSheet_10 : decode cX5_isSheet 10 = .ok (.goto 4, 3) := by decide +kernel
theorem dX5_isSheet_13 : decode cX5_isSheet 13 = .ok (.iconst 0, 1) := by decide +kernel
theorem dX5_isSheet_14 : decode cX5_isSheet 14 = .ok (.ireturn, 1) := by decide +kernel
theorem dX5_contains_0 : decode cX5_contains 0 = .ok (.iload_n 0, 1) := by decide +kernel
theorem dX5_contains_1 : decode cX5_contains 1 = .ok (.iload_n 1, 1) := by decide +kernel
theorem dX5_contains_2 : decode cX5_contains 2 = .ok (.ishr, 1) := by decide +kernel
theorem dX5_contains_3 : decode cX5_contains 3 = .ok (.iconst 1, 1) := by decide +kernel
theorem dX5_contains_4 : decode cX5_contains 4 = .ok (.iand, 1) := by decide +kernel
theorem dX5_contains_5 : decode cX5_contains 5 = .ok (.iconst 1, 1) := by decide +kernel
theorem dX5_contains_6 : decode cX5_contains 6 = .ok (.if_icmp .ne 7, 3) := by decide +kernel
theorem dX5_contains_9 : decode cX5_contains 9 = .ok (.iconst 1, 1) := by decide +kernel
theorem dX5_contains_10 : decode cX5_contains 10 = .ok (.goto 4, 3) := by decide +kernel
theorem dX5_contains_13 : decode cX5_contains 13 = .ok (.iconst 0, 1) := by decide +kernel
theorem dX5_contains_14 : decode cX5_contains 14 = .ok (.ireturn, 1) := by decide +kernel
theorem dX5_isKind_0 : decode cX5_isKind 0 = .ok (.iload_n 0, 1) := by decide +kernel
theorem dX5_isKind_1 : decode cX5_isKind 1 = .ok (.ifCond .lt 13, 3) := by decide +kernel
theorem dX5_isKind_4 : decode cX5_isKind 4 = .ok (.iload_n 0, 1) := by decide +kernel
theorem dX5_isKind_5 : decode cX5_isKind 5 = .ok (.bipush 6, 2) := by decide +kernel
theorem dX5_isKind_7 : decode cX5_isKind 7 = .ok (.if_icmp .ge 7, 3) := by decide +kernel
theorem dX5_isKind_10 : decode cX5_isKind 10 = .ok (.iconst 1, 1) := by decide +kernel
theorem dX5_isKind_11 : decode cX5_isKind 11 = .ok (.goto 4, 3) := by decide +kernel
theorem dX5_isKind_14 : decode cX5_isKind 14 = .ok (.iconst 0, 1) := by decide +kernel
theorem dX5_isKind_15 : decode cX5_isKind 15 = .ok (.ireturn, 1) := by decide +kernel
theorem dX5_above_0 : decode cX5_above 0 = .ok (.iload_n 0, 1) := by decide +kernel
theorem dX5_above_1 : decode cX5_above 1 = .ok (.tableswitch 41 1 5 #[35, 35, 37, 37, 39], 35) := by decide +kernel
theorem dX5_above_36 : decode cX5_above 36 = .ok (.iconst 0, 1) := by decide +kernel
theorem dX5_above_37 : decode cX5_above 37 = .ok (.ireturn, 1) := by decide +kernel
theorem dX5_above_38 : decode cX5_above 38 = .ok (.iconst 1, 1) := by decide +kernel
theorem dX5_above_39 : decode cX5_above 39 = .ok (.ireturn, 1) := by decide +kernel
theorem dX5_above_40 : decode cX5_above 40 = .ok (.iconst 2, 1) := by decide +kernel
theorem dX5_above_41 : decode cX5_above 41 = .ok (.ireturn, 1) := by decide +kernel
theorem dX5_above_42 : decode cX5_above 42 = .ok (.iconst (-1), 1) := by decide +kernel
theorem dX5_above_43 : decode cX5_above 43 = .ok (.ireturn, 1) := by decide +kernel
theorem dX5_isUnder_0 : decode cX5_isUnder 0 = .ok (.iload_n 0, 1) := by decide +kernel
theorem dX5_isUnder_1 : decode cX5_isUnder 1 = .ok (.istore_n 2, 1) := by decide +kernel
theorem dX5_isUnder_2 : decode cX5_isUnder 2 = .ok (.iconst 0, 1) := by decide +kernel
theorem dX5_isUnder_3 : decode cX5_isUnder 3 = .ok (.istore_n 3, 1) := by decide +kernel
theorem dX5_isUnder_4 : decode cX5_isUnder 4 = .ok (.iload_n 3, 1) := by decide +kernel
theorem dX5_isUnder_5 : decode cX5_isUnder 5 = .ok (.bipush 6, 2) := by decide +kernel
theorem dX5_isUnder_7 : decode cX5_isUnder 7 = .ok (.if_icmp .ge 26, 3) := by decide +kernel
theorem dX5_isUnder_10 : decode cX5_isUnder 10 = .ok (.iload_n 2, 1) := by decide +kernel
theorem dX5_isUnder_11 : decode cX5_isUnder 11 = .ok (.iconst (-1), 1) := by decide +kernel
theorem dX5_isUnder_12 : decode cX5_isUnder 12 = .ok (.if_icmp .eq 21, 3) := by decide +kernel
theorem dX5_isUnder_15 : decode cX5_isUnder 15 = .ok (.iload_n 2, 1) := by decide +kernel
theorem dX5_isUnder_16 : decode cX5_isUnder 16 = .ok (.iload_n 1, 1) := by decide +kernel
theorem dX5_isUnder_17 : decode cX5_isUnder 17 = .ok (.if_icmp .ne 5, 3) := by decide +kernel
theorem dX5_isUnder_20 : decode cX5_isUnder 20 = .ok (.iconst 1, 1) := by decide +kernel
theorem dX5_isUnder_21 : decode cX5_isUnder 21 = .ok (.ireturn, 1) := by decide +kernel
theorem dX5_isUnder_22 : decode cX5_isUnder 22 = .ok (.iload_n 2, 1) := by decide +kernel
theorem dX5_isUnder_23 : decode cX5_isUnder 23 = .ok (.invokestatic 281, 3) := by decide +kernel
theorem dX5_isUnder_26 : decode cX5_isUnder 26 = .ok (.istore_n 2, 1) := by decide +kernel
theorem dX5_isUnder_27 : decode cX5_isUnder 27 = .ok (.iinc 3 1, 3) := by decide +kernel
theorem dX5_isUnder_30 : decode cX5_isUnder 30 = .ok (.goto (-26), 3) := by decide +kernel
theorem dX5_isUnder_33 : decode cX5_isUnder 33 = .ok (.iconst 0, 1) := by decide +kernel
theorem dX5_isUnder_34 : decode cX5_isUnder 34 = .ok (.ireturn, 1) := by decide +kernel
theorem dX5_isCatch_0 : decode cX5_isCatch 0 = .ok (.iload_n 1, 1) := by decide +kernel
theorem dX5_isCatch_1 : decode cX5_isCatch 1 = .ok (.iconst 1, 1) := by decide +kernel
theorem dX5_isCatch_2 : decode cX5_isCatch 2 = .ok (.if_icmp .ne 11, 3) := by decide +kernel
theorem dX5_isCatch_5 : decode cX5_isCatch 5 = .ok (.iload_n 2, 1) := by decide +kernel
theorem dX5_isCatch_6 : decode cX5_isCatch 6 = .ok (.ifCond .eq 7, 3) := by decide +kernel
theorem dX5_isCatch_9 : decode cX5_isCatch 9 = .ok (.iconst 1, 1) := by decide +kernel
theorem dX5_isCatch_10 : decode cX5_isCatch 10 = .ok (.goto 4, 3) := by decide +kernel
theorem dX5_isCatch_13 : decode cX5_isCatch 13 = .ok (.iconst 0, 1) := by decide +kernel
theorem dX5_isCatch_14 : decode cX5_isCatch 14 = .ok (.istore 4, 2) := by decide +kernel
theorem dX5_isCatch_16 : decode cX5_isCatch 16 = .ok (.iload 4, 2) := by decide +kernel
theorem dX5_isCatch_18 : decode cX5_isCatch 18 = .ok (.ifCond .ne 12, 3) := by decide +kernel
theorem dX5_isCatch_21 : decode cX5_isCatch 21 = .ok (.iload_n 1, 1) := by decide +kernel
theorem dX5_isCatch_22 : decode cX5_isCatch 22 = .ok (.iconst 2, 1) := by decide +kernel
theorem dX5_isCatch_23 : decode cX5_isCatch 23 = .ok (.if_icmp .ne 11, 3) := by decide +kernel
theorem dX5_isCatch_26 : decode cX5_isCatch 26 = .ok (.iload_n 2, 1) := by decide +kernel
theorem dX5_isCatch_27 : decode cX5_isCatch 27 = .ok (.ifCond .eq 7, 3) := by decide +kernel
theorem dX5_isCatch_30 : decode cX5_isCatch 30 = .ok (.iconst 1, 1) := by decide +kernel
theorem dX5_isCatch_31 : decode cX5_isCatch 31 = .ok (.goto 4, 3) := by decide +kernel
theorem dX5_isCatch_34 : decode cX5_isCatch 34 = .ok (.iconst 0, 1) := by decide +kernel
theorem dX5_isCatch_35 : decode cX5_isCatch 35 = .ok (.istore 5, 2) := by decide +kernel
theorem dX5_isCatch_37 : decode cX5_isCatch 37 = .ok (.iload_n 0, 1) := by decide +kernel
theorem dX5_isCatch_38 : decode cX5_isCatch 38 = .ok (.tableswitch 90 0 5 #[38, 41, 90, 44, 60, 75], 38) := by decide +kernel
theorem dX5_isCatch_76 : decode cX5_isCatch 76 = .ok (.iload 4, 2) := by decide +kernel
theorem dX5_isCatch_78 : decode cX5_isCatch 78 = .ok (.ireturn, 1) := by decide +kernel
theorem dX5_isCatch_79 : decode cX5_isCatch 79 = .ok (.iload 5, 2) := by decide +kernel
theorem dX5_isCatch_81 : decode cX5_isCatch 81 = .ok (.ireturn, 1) := by decide +kernel
theorem dX5_isCatch_82 : decode cX5_isCatch 82 = .ok (.iload 5, 2) := by decide +kernel
theorem dX5_isCatch_84 : decode cX5_isCatch 84 = .ok (.ifCond .ne 8, 3) := by decide +kernel
theorem dX5_isCatch_87 : decode cX5_isCatch 87 = .ok (.iload_n 1, 1) := by decide +kernel
theorem dX5_isCatch_88 : decode cX5_isCatch 88 = .ok (.iconst 1, 1) := by decide +kernel
theorem dX5_isCatch_89 : decode cX5_isCatch 89 = .ok (.if_icmp .ne 7, 3) := by decide +kernel
theorem dX5_isCatch_92 : decode cX5_isCatch 92 = .ok (.iconst 1, 1) := by decide +kernel
theorem dX5_isCatch_93 : decode cX5_isCatch 93 = .ok (.goto 4, 3) := by decide +kernel
theorem dX5_isCatch_96 : decode cX5_isCatch 96 = .ok (.iconst 0, 1) := by decide +kernel
theorem dX5_isCatch_97 : decode cX5_isCatch 97 = .ok (.ireturn, 1) := by decide +kernel
theorem dX5_isCatch_98 : decode cX5_isCatch 98 = .ok (.iload 5, 2) := by decide +kernel
theorem dX5_isCatch_100 : decode cX5_isCatch 100 = .ok (.ifCond .eq 11, 3) := by decide +kernel
theorem dX5_isCatch_103 : decode cX5_isCatch 103 = .ok (.iload_n 3, 1) := by decide +kernel
theorem dX5_isCatch_104 : decode cX5_isCatch 104 = .ok (.ifCond .eq 7, 3) := by decide +kernel
theorem dX5_isCatch_107 : decode cX5_isCatch 107 = .ok (.iconst 1, 1) := by decide +kernel
theorem dX5_isCatch_108 : decode cX5_isCatch 108 = .ok (.goto 4, 3) := by decide +kernel
theorem dX5_isCatch_111 : decode cX5_isCatch 111 = .ok (.iconst 0, 1) := by decide +kernel
theorem dX5_isCatch_112 : decode cX5_isCatch 112 = .ok (.ireturn, 1) := by decide +kernel
theorem dX5_isCatch_113 : decode cX5_isCatch 113 = .ok (.iload_n 1, 1) := by decide +kernel
theorem dX5_isCatch_114 : decode cX5_isCatch 114 = .ok (.iconst 1, 1) := by decide +kernel
theorem dX5_isCatch_115 : decode cX5_isCatch 115 = .ok (.if_icmp .ne 11, 3) := by decide +kernel
theorem dX5_isCatch_118 : decode cX5_isCatch 118 = .ok (.iload_n 2, 1) := by decide +kernel
theorem dX5_isCatch_119 : decode cX5_isCatch 119 = .ok (.ifCond .ne 7, 3) := by decide +kernel
theorem dX5_isCatch_122 : decode cX5_isCatch 122 = .ok (.iconst 1, 1) := by decide +kernel
theorem dX5_isCatch_123 : decode cX5_isCatch 123 = .ok (.goto 4, 3) := by decide +kernel
theorem dX5_isCatch_126 : decode cX5_isCatch 126 = .ok (.iconst 0, 1) := by decide +kernel
theorem dX5_isCatch_127 : decode cX5_isCatch 127 = .ok (.ireturn, 1) := by decide +kernel
theorem dX5_isCatch_128 : decode cX5_isCatch 128 = .ok (.iconst 0, 1) := by decide +kernel
theorem dX5_isCatch_129 : decode cX5_isCatch 129 = .ok (.ireturn, 1) := by decide +kernel
theorem dX5_holds_0 : decode cX5_holds 0 = .ok (.iconst 5, 1) := by decide +kernel
theorem dX5_holds_1 : decode cX5_holds 1 = .ok (.istore_n 1, 1) := by decide +kernel
theorem dX5_holds_2 : decode cX5_holds 2 = .ok (.iload_n 1, 1) := by decide +kernel
theorem dX5_holds_3 : decode cX5_holds 3 = .ok (.iconst 2, 1) := by decide +kernel
theorem dX5_holds_4 : decode cX5_holds 4 = .ok (.isub, 1) := by decide +kernel
theorem dX5_holds_5 : decode cX5_holds 5 = .ok (.istore_n 2, 1) := by decide +kernel
theorem dX5_holds_6 : decode cX5_holds 6 = .ok (.iload_n 1, 1) := by decide +kernel
theorem dX5_holds_7 : decode cX5_holds 7 = .ok (.iconst 3, 1) := by decide +kernel
theorem dX5_holds_8 : decode cX5_holds 8 = .ok (.iadd, 1) := by decide +kernel
theorem dX5_holds_9 : decode cX5_holds 9 = .ok (.istore_n 3, 1) := by decide +kernel
theorem dX5_holds_10 : decode cX5_holds 10 = .ok (.iload_n 0, 1) := by decide +kernel
theorem dX5_holds_11 : decode cX5_holds 11 = .ok (.tableswitch 49 1 5 #[33, 35, 37, 41, 45], 33) := by decide +kernel
theorem dX5_holds_44 : decode cX5_holds 44 = .ok (.iload_n 2, 1) := by decide +kernel
theorem dX5_holds_45 : decode cX5_holds 45 = .ok (.ireturn, 1) := by decide +kernel
theorem dX5_holds_46 : decode cX5_holds 46 = .ok (.iload_n 3, 1) := by decide +kernel
theorem dX5_holds_47 : decode cX5_holds 47 = .ok (.ireturn, 1) := by decide +kernel
theorem dX5_holds_48 : decode cX5_holds 48 = .ok (.iload_n 2, 1) := by decide +kernel
theorem dX5_holds_49 : decode cX5_holds 49 = .ok (.iconst 1, 1) := by decide +kernel
theorem dX5_holds_50 : decode cX5_holds 50 = .ok (.isub, 1) := by decide +kernel
theorem dX5_holds_51 : decode cX5_holds 51 = .ok (.ireturn, 1) := by decide +kernel
theorem dX5_holds_52 : decode cX5_holds 52 = .ok (.iload_n 2, 1) := by decide +kernel
theorem dX5_holds_53 : decode cX5_holds 53 = .ok (.iconst 4, 1) := by decide +kernel
theorem dX5_holds_54 : decode cX5_holds 54 = .ok (.iadd, 1) := by decide +kernel
theorem dX5_holds_55 : decode cX5_holds 55 = .ok (.ireturn, 1) := by decide +kernel
theorem dX5_holds_56 : decode cX5_holds 56 = .ok (.iload_n 3, 1) := by decide +kernel
theorem dX5_holds_57 : decode cX5_holds 57 = .ok (.iconst 1, 1) := by decide +kernel
theorem dX5_holds_58 : decode cX5_holds 58 = .ok (.iadd, 1) := by decide +kernel
theorem dX5_holds_59 : decode cX5_holds 59 = .ok (.ireturn, 1) := by decide +kernel
theorem dX5_holds_60 : decode cX5_holds 60 = .ok (.iload_n 1, 1) := by decide +kernel
theorem dX5_holds_61 : decode cX5_holds 61 = .ok (.ireturn, 1) := by decide +kernel
theorem dX5_need_0 : decode cX5_need 0 = .ok (.iconst 1, 1) := by decide +kernel
theorem dX5_need_1 : decode cX5_need 1 = .ok (.istore_n 1, 1) := by decide +kernel
theorem dX5_need_2 : decode cX5_need 2 = .ok (.iload_n 0, 1) := by decide +kernel
theorem dX5_need_3 : decode cX5_need 3 = .ok (.tableswitch 37 2 5 #[29, 33, 37, 29], 29) := by decide +kernel
theorem dX5_need_32 : decode cX5_need 32 = .ok (.iconst 2, 1) := by decide +kernel
theorem dX5_need_33 : decode cX5_need 33 = .ok (.iload_n 1, 1) := by decide +kernel
theorem dX5_need_34 : decode cX5_need 34 = .ok (.imul, 1) := by decide +kernel
theorem dX5_need_35 : decode cX5_need 35 = .ok (.ireturn, 1) := by decide +kernel
theorem dX5_need_36 : decode cX5_need 36 = .ok (.iload_n 1, 1) := by decide +kernel
theorem dX5_need_37 : decode cX5_need 37 = .ok (.iconst 1, 1) := by decide +kernel
theorem dX5_need_38 : decode cX5_need 38 = .ok (.iadd, 1) := by decide +kernel
theorem dX5_need_39 : decode cX5_need 39 = .ok (.ireturn, 1) := by decide +kernel
theorem dX5_need_40 : decode cX5_need 40 = .ok (.iload_n 1, 1) := by decide +kernel
theorem dX5_need_41 : decode cX5_need 41 = .ok (.ireturn, 1) := by decide +kernel
theorem dX5_kindName_0 : decode cX5_kindName 0 = .ok (.iload_n 0, 1) := by decide +kernel
theorem dX5_kindName_1 : decode cX5_kindName 1 = .ok (.tableswitch 55 0 4 #[35, 39, 43, 47, 51], 35) := by decide +kernel
theorem dX5_kindName_36 : decode cX5_kindName 36 = .ok (.ldc_w 284, 3) := by decide +kernel
theorem dX5_kindName_39 : decode cX5_kindName 39 = .ok (.areturn, 1) := by decide +kernel
theorem dX5_kindName_40 : decode cX5_kindName 40 = .ok (.ldc_w 286, 3) := by decide +kernel
theorem dX5_kindName_43 : decode cX5_kindName 43 = .ok (.areturn, 1) := by decide +kernel
theorem dX5_kindName_44 : decode cX5_kindName 44 = .ok (.ldc_w 288, 3) := by decide +kernel
theorem dX5_kindName_47 : decode cX5_kindName 47 = .ok (.areturn, 1) := by decide +kernel
theorem dX5_kindName_48 : decode cX5_kindName 48 = .ok (.ldc_w 290, 3) := by decide +kernel
theorem dX5_kindName_51 : decode cX5_kindName 51 = .ok (.areturn, 1) := by decide +kernel
theorem dX5_kindName_52 : decode cX5_kindName 52 = .ok (.ldc_w 292, 3) := by decide +kernel
theorem dX5_kindName_55 : decode cX5_kindName 55 = .ok (.areturn, 1) := by decide +kernel
theorem dX5_kindName_56 : decode cX5_kindName 56 = .ok (.ldc_w 294, 3) := by decide +kernel
theorem dX5_kindName_59 : decode cX5_kindName 59 = .ok (.areturn, 1) := by decide +kernel
theorem dJ6_bitCount_0f7a4_0 : decode cJ6_bitCount_0f7a4 0 = .ok (.iload_n 0, 1) := by decide +kernel
theorem dJ6_bitCount_0f7a4_1 : decode cJ6_bitCount_0f7a4 1 = .ok (.iload_n 0, 1) := by decide +kernel
theorem dJ6_bitCount_0f7a4_2 : decode cJ6_bitCount_0f7a4 2 = .ok (.iconst 1, 1) := by decide +kernel
theorem dJ6_bitCount_0f7a4_3 : decode cJ6_bitCount_0f7a4 3 = .ok (.iushr, 1) := by decide +kernel
theorem dJ6_bitCount_0f7a4_4 : decode cJ6_bitCount_0f7a4 4 = .ok (.ldc_w 265, 3) := by decide +kernel
theorem dJ6_bitCount_0f7a4_7 : decode cJ6_bitCount_0f7a4 7 = .ok (.iand, 1) := by decide +kernel
theorem dJ6_bitCount_0f7a4_8 : decode cJ6_bitCount_0f7a4 8 = .ok (.isub, 1) := by decide +kernel
theorem dJ6_bitCount_0f7a4_9 : decode cJ6_bitCount_0f7a4 9 = .ok (.istore_n 0, 1) := by decide +kernel
theorem dJ6_bitCount_0f7a4_10 : decode cJ6_bitCount_0f7a4 10 = .ok (.iload_n 0, 1) := by decide +kernel
theorem dJ6_bitCount_0f7a4_11 : decode cJ6_bitCount_0f7a4 11 = .ok (.ldc_w 266, 3) := by decide +kernel
theorem dJ6_bitCount_0f7a4_14 : decode cJ6_bitCount_0f7a4 14 = .ok (.iand, 1) := by decide +kernel
theorem dJ6_bitCount_0f7a4_15 : decode cJ6_bitCount_0f7a4 15 = .ok (.iload_n 0, 1) := by decide +kernel
theorem dJ6_bitCount_0f7a4_16 : decode cJ6_bitCount_0f7a4 16 = .ok (.iconst 2, 1) := by decide +kernel
theorem dJ6_bitCount_0f7a4_17 : decode cJ6_bitCount_0f7a4 17 = .ok (.iushr, 1) := by decide +kernel
theorem dJ6_bitCount_0f7a4_18 : decode cJ6_bitCount_0f7a4 18 = .ok (.ldc_w 266, 3) := by decide +kernel
theorem dJ6_bitCount_0f7a4_21 : decode cJ6_bitCount_0f7a4 21 = .ok (.iand, 1) := by decide +kernel
theorem dJ6_bitCount_0f7a4_22 : decode cJ6_bitCount_0f7a4 22 = .ok (.iadd, 1) := by decide +kernel
theorem dJ6_bitCount_0f7a4_23 : decode cJ6_bitCount_0f7a4 23 = .ok (.istore_n 0, 1) := by decide +kernel
theorem dJ6_bitCount_0f7a4_24 : decode cJ6_bitCount_0f7a4 24 = .ok (.iload_n 0, 1) := by decide +kernel
theorem dJ6_bitCount_0f7a4_25 : decode cJ6_bitCount_0f7a4 25 = .ok (.iload_n 0, 1) := by decide +kernel
theorem dJ6_bitCount_0f7a4_26 : decode cJ6_bitCount_0f7a4 26 = .ok (.iconst 4, 1) := by decide +kernel
theorem dJ6_bitCount_0f7a4_27 : decode cJ6_bitCount_0f7a4 27 = .ok (.iushr, 1) := by decide +kernel
theorem dJ6_bitCount_0f7a4_28 : decode cJ6_bitCount_0f7a4 28 = .ok (.iadd, 1) := by decide +kernel
theorem dJ6_bitCount_0f7a4_29 : decode cJ6_bitCount_0f7a4 29 = .ok (.ldc_w 267, 3) := by decide +kernel
theorem dJ6_bitCount_0f7a4_32 : decode cJ6_bitCount_0f7a4 32 = .ok (.iand, 1) := by decide +kernel
theorem dJ6_bitCount_0f7a4_33 : decode cJ6_bitCount_0f7a4 33 = .ok (.istore_n 0, 1) := by decide +kernel
theorem dJ6_bitCount_0f7a4_34 : decode cJ6_bitCount_0f7a4 34 = .ok (.iload_n 0, 1) := by decide +kernel
theorem dJ6_bitCount_0f7a4_35 : decode cJ6_bitCount_0f7a4 35 = .ok (.iload_n 0, 1) := by decide +kernel
theorem dJ6_bitCount_0f7a4_36 : decode cJ6_bitCount_0f7a4 36 = .ok (.bipush 8, 2) := by decide +kernel
theorem dJ6_bitCount_0f7a4_38 : decode cJ6_bitCount_0f7a4 38 = .ok (.iushr, 1) := by decide +kernel
theorem dJ6_bitCount_0f7a4_39 : decode cJ6_bitCount_0f7a4 39 = .ok (.iadd, 1) := by decide +kernel
theorem dJ6_bitCount_0f7a4_40 : decode cJ6_bitCount_0f7a4 40 = .ok (.istore_n 0, 1) := by decide +kernel
theorem dJ6_bitCount_0f7a4_41 : decode cJ6_bitCount_0f7a4 41 = .ok (.iload_n 0, 1) := by decide +kernel
theorem dJ6_bitCount_0f7a4_42 : decode cJ6_bitCount_0f7a4 42 = .ok (.iload_n 0, 1) := by decide +kernel
theorem dJ6_bitCount_0f7a4_43 : decode cJ6_bitCount_0f7a4 43 = .ok (.bipush 16, 2) := by decide +kernel
theorem dJ6_bitCount_0f7a4_45 : decode cJ6_bitCount_0f7a4 45 = .ok (.iushr, 1) := by decide +kernel
theorem dJ6_bitCount_0f7a4_46 : decode cJ6_bitCount_0f7a4 46 = .ok (.iadd, 1) := by decide +kernel
theorem dJ6_bitCount_0f7a4_47 : decode cJ6_bitCount_0f7a4 47 = .ok (.istore_n 0, 1) := by decide +kernel
theorem dJ6_bitCount_0f7a4_48 : decode cJ6_bitCount_0f7a4 48 = .ok (.iload_n 0, 1) := by decide +kernel
theorem dJ6_bitCount_0f7a4_49 : decode cJ6_bitCount_0f7a4 49 = .ok (.bipush 63, 2) := by decide +kernel
theorem dJ6_bitCount_0f7a4_51 : decode cJ6_bitCount_0f7a4 51 = .ok (.iand, 1) := by decide +kernel
theorem dJ6_bitCount_0f7a4_52 : decode cJ6_bitCount_0f7a4 52 = .ok (.ireturn, 1) := by decide +kernel
theorem dJ9_abs_0f7a4_0 : decode cJ9_abs_0f7a4 0 = .ok (.iload_n 0, 1) := by decide +kernel
theorem dJ9_abs_0f7a4_1 : decode cJ9_abs_0f7a4 1 = .ok (.ifCond .ge 8, 3) := by decide +kernel
theorem dJ9_abs_0f7a4_4 : decode cJ9_abs_0f7a4 4 = .ok (.iload_n 0, 1) := by decide +kernel
theorem dJ9_abs_0f7a4_5 : decode cJ9_abs_0f7a4 5 = .ok (.ineg, 1) := by decide +kernel
theorem dJ9_abs_0f7a4_6 : decode cJ9_abs_0f7a4 6 = .ok (.goto 4, 3) := by decide +kernel
theorem dJ9_abs_0f7a4_9 : decode cJ9_abs_0f7a4 9 = .ok (.iload_n 0, 1) := by decide +kernel
theorem dJ9_abs_0f7a4_10 : decode cJ9_abs_0f7a4 10 = .ok (.ireturn, 1) := by decide +kernel
theorem dJ9_max_7cf53_0 : decode cJ9_max_7cf53 0 = .ok (.iload_n 0, 1) := by decide +kernel
theorem dJ9_max_7cf53_1 : decode cJ9_max_7cf53 1 = .ok (.iload_n 1, 1) := by decide +kernel
theorem dJ9_max_7cf53_2 : decode cJ9_max_7cf53 2 = .ok (.if_icmp .lt 7, 3) := by decide +kernel
theorem dJ9_max_7cf53_5 : decode cJ9_max_7cf53 5 = .ok (.iload_n 0, 1) := by decide +kernel
theorem dJ9_max_7cf53_6 : decode cJ9_max_7cf53 6 = .ok (.goto 4, 3) := by decide +kernel
theorem dJ9_max_7cf53_9 : decode cJ9_max_7cf53 9 = .ok (.iload_n 1, 1) := by decide +kernel
theorem dJ9_max_7cf53_10 : decode cJ9_max_7cf53 10 = .ok (.ireturn, 1) := by decide +kernel
theorem dJ9_min_7cf53_0 : decode cJ9_min_7cf53 0 = .ok (.iload_n 0, 1) := by decide +kernel
theorem dJ9_min_7cf53_1 : decode cJ9_min_7cf53 1 = .ok (.iload_n 1, 1) := by decide +kernel
theorem dJ9_min_7cf53_2 : decode cJ9_min_7cf53 2 = .ok (.if_icmp .gt 7, 3) := by decide +kernel
theorem dJ9_min_7cf53_5 : decode cJ9_min_7cf53 5 = .ok (.iload_n 0, 1) := by decide +kernel
theorem dJ9_min_7cf53_6 : decode cJ9_min_7cf53 6 = .ok (.goto 4, 3) := by decide +kernel
theorem dJ9_min_7cf53_9 : decode cJ9_min_7cf53 9 = .ok (.iload_n 1, 1) := by decide +kernel
theorem dJ9_min_7cf53_10 : decode cJ9_min_7cf53 10 = .ok (.ireturn, 1) := by decide +kernel
theorem dJ0_length_8abf5_0 : decode cJ0_length_8abf5 0 = .ok (.aload_n 0, 1) := by decide +kernel
theorem dJ0_length_8abf5_1 : decode cJ0_length_8abf5 1 = .ok (.getfield 9, 3) := by decide +kernel
theorem dJ0_length_8abf5_4 : decode cJ0_length_8abf5 4 = .ok (.arraylength, 1) := by decide +kernel
theorem dJ0_length_8abf5_5 : decode cJ0_length_8abf5 5 = .ok (.aload_n 0, 1) := by decide +kernel
theorem dJ0_length_8abf5_6 : decode cJ0_length_8abf5 6 = .ok (.invokevirtual 335, 3) := by decide +kernel
theorem dJ0_length_8abf5_9 : decode cJ0_length_8abf5 9 = .ok (.ishr, 1) := by decide +kernel
theorem dJ0_length_8abf5_10 : decode cJ0_length_8abf5 10 = .ok (.ireturn, 1) := by decide +kernel
theorem dJ0_charAt_5068e_0 : decode cJ0_charAt_5068e 0 = .ok (.aload_n 0, 1) := by decide +kernel
theorem dJ0_charAt_5068e_1 : decode cJ0_charAt_5068e 1 = .ok (.invokevirtual 492, 3) := by decide +kernel
theorem dJ0_charAt_5068e_4 : decode cJ0_charAt_5068e 4 = .ok (.ifCond .eq 12, 3) := by decide +kernel
theorem dJ0_charAt_5068e_7 : decode cJ0_charAt_5068e 7 = .ok (.aload_n 0, 1) := by decide +kernel
theorem dJ0_charAt_5068e_8 : decode cJ0_charAt_5068e 8 = .ok (.getfield 9, 3) := by decide +kernel
theorem dJ0_charAt_5068e_11 : decode cJ0_charAt_5068e 11 = .ok (.iload_n 1, 1) := by decide +kernel
theorem dJ0_charAt_5068e_12 : decode cJ0_charAt_5068e 12 = .ok (.invokestatic 495, 3) := by decide +kernel
theorem dJ0_charAt_5068e_15 : decode cJ0_charAt_5068e 15 = .ok (.ireturn, 1) := by decide +kernel
theorem dJ0_charAt_5068e_16 : decode cJ0_charAt_5068e 16 = .ok (.aload_n 0, 1) := by decide +kernel
theorem dJ0_charAt_5068e_17 : decode cJ0_charAt_5068e 17 = .ok (.getfield 9, 3) := by decide +kernel
theorem dJ0_charAt_5068e_20 : decode cJ0_charAt_5068e 20 = .ok (.iload_n 1, 1) := by decide +kernel
theorem dJ0_charAt_5068e_21 : decode cJ0_charAt_5068e 21 = .ok (.invokestatic 498, 3) := by decide +kernel
theorem dJ0_charAt_5068e_24 : decode cJ0_charAt_5068e 24 = .ok (.ireturn, 1) := by decide +kernel
theorem dJ0_coder_7d493_0 : decode cJ0_coder_7d493 0 = .ok (.getstatic 38, 3) := by decide +kernel
theorem dJ0_coder_7d493_3 : decode cJ0_coder_7d493 3 = .ok (.ifCond .eq 10, 3) := by decide +kernel
theorem dJ0_coder_7d493_6 : decode cJ0_coder_7d493 6 = .ok (.aload_n 0, 1) := by decide +kernel
theorem dJ0_coder_7d493_7 : decode cJ0_coder_7d493 7 = .ok (.getfield 15, 3) := by decide +kernel
theorem dJ0_coder_7d493_10 : decode cJ0_coder_7d493 10 = .ok (.goto 4, 3) := by decide +kernel
theorem dJ0_coder_7d493_13 : decode cJ0_coder_7d493 13 = .ok (.iconst 1, 1) := by decide +kernel
theorem dJ0_coder_7d493_14 : decode cJ0_coder_7d493 14 = .ok (.ireturn, 1) := by decide +kernel
theorem dJ0_isLatin1_aae02_0 : decode cJ0_isLatin1_aae02 0 = .ok (.getstatic 38, 3) := by decide +kernel
theorem dJ0_isLatin1_aae02_3 : decode cJ0_isLatin1_aae02 3 = .ok (.ifCond .eq 14, 3) := by decide +kernel
theorem dJ0_isLatin1_aae02_6 : decode cJ0_isLatin1_aae02 6 = .ok (.aload_n 0, 1) := by decide +kernel
theorem dJ0_isLatin1_aae02_7 : decode cJ0_isLatin1_aae02 7 = .ok (.getfield 15, 3) := by decide +kernel
theorem dJ0_isLatin1_aae02_10 : decode cJ0_isLatin1_aae02 10 = .ok (.ifCond .ne 7, 3) := by decide +kernel
theorem dJ0_isLatin1_aae02_13 : decode cJ0_isLatin1_aae02 13 = .ok (.iconst 1, 1) := by decide +kernel
theorem dJ0_isLatin1_aae02_14 : decode cJ0_isLatin1_aae02 14 = .ok (.goto 4, 3) := by decide +kernel
theorem dJ0_isLatin1_aae02_17 : decode cJ0_isLatin1_aae02 17 = .ok (.iconst 0, 1) := by decide +kernel
theorem dJ0_isLatin1_aae02_18 : decode cJ0_isLatin1_aae02 18 = .ok (.ireturn, 1) := by decide +kernel
theorem dJ0_checkIndex_df160_0 : decode cJ0_checkIndex_df160 0 = .ok (.iload_n 0, 1) := by decide +kernel
theorem dJ0_checkIndex_df160_1 : decode cJ0_checkIndex_df160 1 = .ok (.iload_n 1, 1) := by decide +kernel
theorem dJ0_checkIndex_df160_2 : decode cJ0_checkIndex_df160 2 = .ok (.getstatic 1053, 3) := by decide +kernel
theorem dJ0_checkIndex_df160_5 : decode cJ0_checkIndex_df160 5 = .ok (.invokestatic 1059, 3) := by decide +kernel
theorem dJ0_checkIndex_df160_8 : decode cJ0_checkIndex_df160 8 = .ok (.pop, 1) := by decide +kernel
theorem dJ0_checkIndex_df160_9 : decode cJ0_checkIndex_df160 9 = .ok (.return_, 1) := by decide +kernel
theorem dJ1_charAt_3b067_0 : decode cJ1_charAt_3b067 0 = .ok (.iload_n 1, 1) := by decide +kernel
theorem dJ1_charAt_3b067_1 : decode cJ1_charAt_3b067 1 = .ok (.aload_n 0, 1) := by decide +kernel
theorem dJ1_charAt_3b067_2 : decode cJ1_charAt_3b067 2 = .ok (.arraylength, 1) := by decide +kernel
theorem dJ1_charAt_3b067_3 : decode cJ1_charAt_3b067 3 = .ok (.invokestatic 9, 3) := by decide +kernel
theorem dJ1_charAt_3b067_6 : decode cJ1_charAt_3b067 6 = .ok (.aload_n 0, 1) := by decide +kernel
theorem dJ1_charAt_3b067_7 : decode cJ1_charAt_3b067 7 = .ok (.iload_n 1, 1) := by decide +kernel
theorem dJ1_charAt_3b067_8 : decode cJ1_charAt_3b067 8 = .ok (.baload, 1) := by decide +kernel
theorem dJ1_charAt_3b067_9 : decode cJ1_charAt_3b067 9 = .ok (.sipush 255, 3) := by decide +kernel
theorem dJ1_charAt_3b067_12 : decode cJ1_charAt_3b067 12 = .ok (.iand, 1) := by decide +kernel
theorem dJ1_charAt_3b067_13 : decode cJ1_charAt_3b067 13 = .ok (.i2c, 1) := by decide +kernel
theorem dJ1_charAt_3b067_14 : decode cJ1_charAt_3b067 14 = .ok (.ireturn, 1) := by decide +kernel
theorem dJ2_getChar_3b067_0 : decode cJ2_getChar_3b067 0 = .ok (.getstatic 44, 3) := by decide +kernel
theorem dJ2_getChar_3b067_3 : decode cJ2_getChar_3b067 3 = .ok (.ifCond .ne 25, 3) := by decide +kernel
theorem dJ2_getChar_3b067_6 : decode cJ2_getChar_3b067 6 = .ok (.iload_n 1, 1) := by decide +kernel
theorem dJ2_getChar_3b067_7 : decode cJ2_getChar_3b067 7 = .ok (.ifCond .lt 11, 3) := by decide +kernel
theorem dJ2_getChar_3b067_10 : decode cJ2_getChar_3b067 10 = .ok (.iload_n 1, 1) := by decide +kernel
theorem dJ2_getChar_3b067_11 : decode cJ2_getChar_3b067 11 = .ok (.aload_n 0, 1) := by decide +kernel
theorem dJ2_getChar_3b067_12 : decode cJ2_getChar_3b067 12 = .ok (.invokestatic 48, 3) := by decide +kernel
theorem dJ2_getChar_3b067_15 : decode cJ2_getChar_3b067 15 = .ok (.if_icmp .lt 13, 3) := by decide +kernel
theorem dJ2_getChar_3b067_18 : decode cJ2_getChar_3b067 18 = .ok (.new 52, 3) := by decide +kernel
theorem dJ2_getChar_3b067_21 : decode cJ2_getChar_3b067 21 = .ok (.dup, 1) := by decide +kernel
theorem dJ2_getChar_3b067_22 : decode cJ2_getChar_3b067 22 = .ok (.ldc 54, 2) := by decide +kernel
theorem dJ2_getChar_3b067_24 : decode cJ2_getChar_3b067 24 = .ok (.invokespecial 56, 3) := by decide +kernel
theorem dJ2_getChar_3b067_27 : decode cJ2_getChar_3b067 27 = .ok (.athrow, 1) := by decide +kernel
theorem dJ2_getChar_3b067_28 : decode cJ2_getChar_3b067 28 = .ok (.iload_n 1, 1) := by decide +kernel
theorem dJ2_getChar_3b067_29 : decode cJ2_getChar_3b067 29 = .ok (.iconst 1, 1) := by decide +kernel
theorem dJ2_getChar_3b067_30 : decode cJ2_getChar_3b067 30 = .ok (.ishl, 1) := by decide +kernel
theorem dJ2_getChar_3b067_31 : decode cJ2_getChar_3b067 31 = .ok (.istore_n 1, 1) := by decide +kernel
theorem dJ2_getChar_3b067_32 : decode cJ2_getChar_3b067 32 = .ok (.aload_n 0, 1) := by decide +kernel
theorem dJ2_getChar_3b067_33 : decode cJ2_getChar_3b067 33 = .ok (.iload_n 1, 1) := by decide +kernel
theorem dJ2_getChar_3b067_34 : decode cJ2_getChar_3b067 34 = .ok (.iinc 1 1, 3) := by decide +kernel
theorem dJ2_getChar_3b067_37 : decode cJ2_getChar_3b067 37 = .ok (.baload, 1) := by decide +kernel
theorem dJ2_getChar_3b067_38 : decode cJ2_getChar_3b067 38 = .ok (.sipush 255, 3) := by decide +kernel
theorem dJ2_getChar_3b067_41 : decode cJ2_getChar_3b067 41 = .ok (.iand, 1) := by decide +kernel
theorem dJ2_getChar_3b067_42 : decode cJ2_getChar_3b067 42 = .ok (.getstatic 59, 3) := by decide +kernel
theorem dJ2_getChar_3b067_45 : decode cJ2_getChar_3b067 45 = .ok (.ishl, 1) := by decide +kernel
theorem dJ2_getChar_3b067_46 : decode cJ2_getChar_3b067 46 = .ok (.aload_n 0, 1) := by decide +kernel
theorem dJ2_getChar_3b067_47 : decode cJ2_getChar_3b067 47 = .ok (.iload_n 1, 1) := by decide +kernel
theorem dJ2_getChar_3b067_48 : decode cJ2_getChar_3b067 48 = .ok (.baload, 1) := by decide +kernel
theorem dJ2_getChar_3b067_49 : decode cJ2_getChar_3b067 49 = .ok (.sipush 255, 3) := by decide +kernel
theorem dJ2_getChar_3b067_52 : decode cJ2_getChar_3b067 52 = .ok (.iand, 1) := by decide +kernel
theorem dJ2_getChar_3b067_53 : decode cJ2_getChar_3b067 53 = .ok (.getstatic 63, 3) := by decide +kernel
theorem dJ2_getChar_3b067_56 : decode cJ2_getChar_3b067 56 = .ok (.ishl, 1) := by decide +kernel
theorem dJ2_getChar_3b067_57 : decode cJ2_getChar_3b067 57 = .ok (.ior, 1) := by decide +kernel
theorem dJ2_getChar_3b067_58 : decode cJ2_getChar_3b067 58 = .ok (.i2c, 1) := by decide +kernel
theorem dJ2_getChar_3b067_59 : decode cJ2_getChar_3b067 59 = .ok (.ireturn, 1) := by decide +kernel
theorem dJ2_length_9d52b_0 : decode cJ2_length_9d52b 0 = .ok (.aload_n 0, 1) := by decide +kernel
theorem dJ2_length_9d52b_1 : decode cJ2_length_9d52b 1 = .ok (.arraylength, 1) := by decide +kernel
theorem dJ2_length_9d52b_2 : decode cJ2_length_9d52b 2 = .ok (.iconst 1, 1) := by decide +kernel
theorem dJ2_length_9d52b_3 : decode cJ2_length_9d52b 3 = .ok (.ishr, 1) := by decide +kernel
theorem dJ2_length_9d52b_4 : decode cJ2_length_9d52b 4 = .ok (.ireturn, 1) := by decide +kernel
theorem dJ2_charAt_3b067_0 : decode cJ2_charAt_3b067 0 = .ok (.iload_n 1, 1) := by decide +kernel
theorem dJ2_charAt_3b067_1 : decode cJ2_charAt_3b067 1 = .ok (.aload_n 0, 1) := by decide +kernel
theorem dJ2_charAt_3b067_2 : decode cJ2_charAt_3b067 2 = .ok (.invokestatic 67, 3) := by decide +kernel
theorem dJ2_charAt_3b067_5 : decode cJ2_charAt_3b067 5 = .ok (.aload_n 0, 1) := by decide +kernel
theorem dJ2_charAt_3b067_6 : decode cJ2_charAt_3b067 6 = .ok (.iload_n 1, 1) := by decide +kernel
theorem dJ2_charAt_3b067_7 : decode cJ2_charAt_3b067 7 = .ok (.invokestatic 71, 3) := by decide +kernel
theorem dJ2_charAt_3b067_10 : decode cJ2_charAt_3b067 10 = .ok (.ireturn, 1) := by decide +kernel
theorem dJ2_checkIndex_2214a_0 : decode cJ2_checkIndex_2214a 0 = .ok (.iload_n 0, 1) := by decide +kernel
theorem dJ2_checkIndex_2214a_1 : decode cJ2_checkIndex_2214a 1 = .ok (.aload_n 1, 1) := by decide +kernel
theorem dJ2_checkIndex_2214a_2 : decode cJ2_checkIndex_2214a 2 = .ok (.invokestatic 48, 3) := by decide +kernel
theorem dJ2_checkIndex_2214a_5 : decode cJ2_checkIndex_2214a 5 = .ok (.invokestatic 414, 3) := by decide +kernel
theorem dJ2_checkIndex_2214a_8 : decode cJ2_checkIndex_2214a 8 = .ok (.return_, 1) := by decide +kernel
theorem dJ3_checkIndex_8e157_0 : decode cJ3_checkIndex_8e157 0 = .ok (.iload_n 0, 1) := by decide +kernel
theorem dJ3_checkIndex_8e157_1 : decode cJ3_checkIndex_8e157 1 = .ok (.ifCond .lt 8, 3) := by decide +kernel
theorem dJ3_checkIndex_8e157_4 : decode cJ3_checkIndex_8e157 4 = .ok (.iload_n 0, 1) := by decide +kernel
theorem dJ3_checkIndex_8e157_5 : decode cJ3_checkIndex_8e157 5 = .ok (.iload_n 1, 1) := by decide +kernel
theorem dJ3_checkIndex_8e157_6 : decode cJ3_checkIndex_8e157 6 = .ok (.if_icmp .lt 10, 3) := by decide +kernel
theorem dJ3_checkIndex_8e157_9 : decode cJ3_checkIndex_8e157 9 = .ok (.aload_n 2, 1) := by decide +kernel
theorem dJ3_checkIndex_8e157_10 : decode cJ3_checkIndex_8e157 10 = .ok (.iload_n 0, 1) := by decide +kernel
theorem dJ3_checkIndex_8e157_11 : decode cJ3_checkIndex_8e157 11 = .ok (.iload_n 1, 1) := by decide +kernel
theorem dJ3_checkIndex_8e157_12 : decode cJ3_checkIndex_8e157 12 = .ok (.invokestatic 95, 3) := by decide +kernel
theorem dJ3_checkIndex_8e157_15 : decode cJ3_checkIndex_8e157 15 = .ok (.athrow, 1) := by decide +kernel
theorem dJ3_checkIndex_8e157_16 : decode cJ3_checkIndex_8e157 16 = .ok (.iload_n 0, 1) := by decide +kernel
theorem dJ3_checkIndex_8e157_17 : decode cJ3_checkIndex_8e157 17 = .ok (.ireturn, 1) := by decide +kernel
