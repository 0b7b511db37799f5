theorem dX6_init_0 : decode cX6_init 0 = .ok (.aload_n 0, 1) := by decide +kernel
theorem dX6_init_1 : decode cX6_init 1 = .ok (.invokespecial 1, 3) := by decide +kernel
theorem dX6_init_4 : decode cX6_init 4 = .ok (.aload_n 0, 1) := by decide +kernel
theorem dX6_init_5 : decode cX6_init 5 = .ok (.bipush 63, 2) := by decide +kernel
theorem dX6_init_7 : decode cX6_init 7 = .ok (.newarray .int, 2) := by decide +kernel
theorem dX6_init_9 : decode cX6_init 9 = .ok (.putfield 7, 3) := by decide +kernel
theorem dX6_init_12 : decode cX6_init 12 = .ok (.aload_n 0, 1) := by decide +kernel
theorem dX6_init_13 : decode cX6_init 13 = .ok (.bipush 63, 2) := by decide +kernel
theorem dX6_init_15 : decode cX6_init 15 = .ok (.newarray .int, 2) := by decide +kernel
theorem dX6_init_17 : decode cX6_init 17 = .ok (.putfield 13, 3) := by decide +kernel
theorem dX6_init_20 : decode cX6_init 20 = .ok (.aload_n 0, 1) := by decide +kernel
theorem dX6_init_21 : decode cX6_init 21 = .ok (.bipush 63, 2) := by decide +kernel
theorem dX6_init_23 : decode cX6_init 23 = .ok (.newarray .int, 2) := by decide +kernel
theorem dX6_init_25 : decode cX6_init 25 = .ok (.putfield 16, 3) := by decide +kernel
theorem dX6_init_28 : decode cX6_init 28 = .ok (.aload_n 0, 1) := by decide +kernel
theorem dX6_init_29 : decode cX6_init 29 = .ok (.bipush 63, 2) := by decide +kernel
theorem dX6_init_31 : decode cX6_init 31 = .ok (.newarray .int, 2) := by decide +kernel
theorem dX6_init_33 : decode cX6_init 33 = .ok (.putfield 19, 3) := by decide +kernel
theorem dX6_init_36 : decode cX6_init 36 = .ok (.aload_n 0, 1) := by decide +kernel
theorem dX6_init_37 : decode cX6_init 37 = .ok (.bipush 7, 2) := by decide +kernel
theorem dX6_init_39 : decode cX6_init 39 = .ok (.newarray .int, 2) := by decide +kernel
theorem dX6_init_41 : decode cX6_init 41 = .ok (.putfield 22, 3) := by decide +kernel
theorem dX6_init_44 : decode cX6_init 44 = .ok (.aload_n 0, 1) := by decide +kernel
theorem dX6_init_45 : decode cX6_init 45 = .ok (.bipush 12, 2) := by decide +kernel
theorem dX6_init_47 : decode cX6_init 47 = .ok (.newarray .int, 2) := by decide +kernel
theorem dX6_init_49 : decode cX6_init 49 = .ok (.putfield 25, 3) := by decide +kernel
theorem dX6_init_52 : decode cX6_init 52 = .ok (.aload_n 0, 1) := by decide +kernel
theorem dX6_init_53 : decode cX6_init 53 = .ok (.bipush 120, 2) := by decide +kernel
theorem dX6_init_55 : decode cX6_init 55 = .ok (.newarray .int, 2) := by decide +kernel
theorem dX6_init_57 : decode cX6_init 57 = .ok (.putfield 28, 3) := by decide +kernel
theorem dX6_init_60 : decode cX6_init 60 = .ok (.aload_n 0, 1) := by decide +kernel
theorem dX6_init_61 : decode cX6_init 61 = .ok (.iconst 4, 1) := by decide +kernel
theorem dX6_init_62 : decode cX6_init 62 = .ok (.newarray .int, 2) := by decide +kernel
theorem dX6_init_64 : decode cX6_init 64 = .ok (.putfield 31, 3) := by decide +kernel
theorem dX6_init_67 : decode cX6_init 67 = .ok (.aload_n 0, 1) := by decide +kernel
theorem dX6_init_68 : decode cX6_init 68 = .ok (.iconst 4, 1) := by decide +kernel
theorem dX6_init_69 : decode cX6_init 69 = .ok (.newarray .int, 2) := by decide +kernel
theorem dX6_init_71 : decode cX6_init 71 = .ok (.putfield 34, 3) := by decide +kernel
theorem dX6_init_74 : decode cX6_init 74 = .ok (.aload_n 0, 1) := by decide +kernel
theorem dX6_init_75 : decode cX6_init 75 = .ok (.sipush 160, 3) := by decide +kernel
theorem dX6_init_78 : decode cX6_init 78 = .ok (.newarray .long, 2) := by decide +kernel
theorem dX6_init_80 : decode cX6_init 80 = .ok (.putfield 37, 3) := by decide +kernel
theorem dX6_init_83 : decode cX6_init 83 = .ok (.aload_n 0, 1) := by decide +kernel
theorem dX6_init_84 : decode cX6_init 84 = .ok (.bipush 40, 2) := by decide +kernel
theorem dX6_init_86 : decode cX6_init 86 = .ok (.newarray .long, 2) := by decide +kernel
theorem dX6_init_88 : decode cX6_init 88 = .ok (.putfield 41, 3) := by decide +kernel
theorem dX6_init_91 : decode cX6_init 91 = .ok (.aload_n 0, 1) := by decide +kernel
theorem dX6_init_92 : decode cX6_init 92 = .ok (.getfield 7, 3) := by decide +kernel
theorem dX6_init_95 : decode cX6_init 95 = .ok (.iconst 2, 1) := by decide +kernel
theorem dX6_init_96 : decode cX6_init 96 = .ok (.iconst 4, 1) := by decide +kernel
theorem dX6_init_97 : decode cX6_init 97 = .ok (.iastore, 1) := by decide +kernel
theorem dX6_init_98 : decode cX6_init 98 = .ok (.return_, 1) := by decide +kernel
theorem dX6_in_0 : decode cX6_in 0 = .ok (.lload_n 0, 1) := by decide +kernel
theorem dX6_in_1 : decode cX6_in 1 = .ok (.lload_n 2, 1) := by decide +kernel
theorem dX6_in_2 : decode cX6_in 2 = .ok (.lcmp, 1) := by decide +kernel
theorem dX6_in_3 : decode cX6_in 3 = .ok (.ifCond .lt 14, 3) := by decide +kernel
theorem dX6_in_6 : decode cX6_in 6 = .ok (.lload_n 0, 1) := by decide +kernel
theorem dX6_in_7 : decode cX6_in 7 = .ok (.lload 4, 2) := by decide +kernel
theorem dX6_in_9 : decode cX6_in 9 = .ok (.lcmp, 1) := by decide +kernel
theorem dX6_in_10 : decode cX6_in 10 = .ok (.ifCond .gt 7, 3) := by decide +kernel
theorem dX6_in_13 : decode cX6_in 13 = .ok (.iconst 1, 1) := by decide +kernel
theorem dX6_in_14 : decode cX6_in 14 = .ok (.goto 4, 3) := by decide +kernel
theorem dX6_in_17 : decode cX6_in 17 = .ok (.iconst 0, 1) := by decide +kernel
theorem dX6_in_18 : decode cX6_in 18 = .ok (.ireturn, 1) := by decide +kernel
theorem dX6_finds_0 : decode cX6_finds 0 = .ok (.aload_n 0, 1) := by decide +kernel
theorem dX6_finds_1 : decode cX6_finds 1 = .ok (.getfield 22, 3) := by decide +kernel
theorem dX6_finds_4 : decode cX6_finds 4 = .ok (.ldc 44, 2) := by decide +kernel
theorem dX6_finds_6 : decode cX6_finds 6 = .ok (.iload_n 1, 1) := by decide +kernel
theorem dX6_finds_7 : decode cX6_finds 7 = .ok (.isub, 1) := by decide +kernel
theorem dX6_finds_8 : decode cX6_finds 8 = .ok (.dup2, 1) := by decide +kernel
theorem dX6_finds_9 : decode cX6_finds 9 = .ok (.iaload, 1) := by decide +kernel
theorem dX6_finds_10 : decode cX6_finds 10 = .ok (.iconst 1, 1) := by decide +kernel
theorem dX6_finds_11 : decode cX6_finds 11 = .ok (.iadd, 1) := by decide +kernel
theorem dX6_finds_12 : decode cX6_finds 12 = .ok (.iastore, 1) := by decide +kernel
theorem dX6_finds_13 : decode cX6_finds 13 = .ok (.iload_n 1, 1) := by decide +kernel
theorem dX6_finds_14 : decode cX6_finds 14 = .ok (.ireturn, 1) := by decide +kernel
theorem dX6_keepsAside_0 : decode cX6_keepsAside 0 = .ok (.iconst 0, 1) := by decide +kernel
theorem dX6_keepsAside_1 : decode cX6_keepsAside 1 = .ok (.istore_n 1, 1) := by decide +kernel
theorem dX6_keepsAside_2 : decode cX6_keepsAside 2 = .ok (.iload_n 1, 1) := by decide +kernel
theorem dX6_keepsAside_3 : decode cX6_keepsAside 3 = .ok (.bipush 63, 2) := by decide +kernel
theorem dX6_keepsAside_5 : decode cX6_keepsAside 5 = .ok (.if_icmp .ge 21, 3) := by decide +kernel
theorem dX6_keepsAside_8 : decode cX6_keepsAside 8 = .ok (.aload_n 0, 1) := by decide +kernel
theorem dX6_keepsAside_9 : decode cX6_keepsAside 9 = .ok (.getfield 16, 3) := by decide +kernel
theorem dX6_keepsAside_12 : decode cX6_keepsAside 12 = .ok (.iload_n 1, 1) := by decide +kernel
theorem dX6_keepsAside_13 : decode cX6_keepsAside 13 = .ok (.aload_n 0, 1) := by decide +kernel
theorem dX6_keepsAside_14 : decode cX6_keepsAside 14 = .ok (.getfield 7, 3) := by decide +kernel
theorem dX6_keepsAside_17 : decode cX6_keepsAside 17 = .ok (.iload_n 1, 1) := by decide +kernel
theorem dX6_keepsAside_18 : decode cX6_keepsAside 18 = .ok (.iaload, 1) := by decide +kernel
theorem dX6_keepsAside_19 : decode cX6_keepsAside 19 = .ok (.iastore, 1) := by decide +kernel
theorem dX6_keepsAside_20 : decode cX6_keepsAside 20 = .ok (.iinc 1 1, 3) := by decide +kernel
theorem dX6_keepsAside_23 : decode cX6_keepsAside 23 = .ok (.goto (-21), 3) := by decide +kernel
theorem dX6_keepsAside_26 : decode cX6_keepsAside 26 = .ok (.return_, 1) := by decide +kernel
theorem dX6_putsBack_0 : decode cX6_putsBack 0 = .ok (.iconst 0, 1) := by decide +kernel
theorem dX6_putsBack_1 : decode cX6_putsBack 1 = .ok (.istore_n 1, 1) := by decide +kernel
theorem dX6_putsBack_2 : decode cX6_putsBack 2 = .ok (.iload_n 1, 1) := by decide +kernel
theorem dX6_putsBack_3 : decode cX6_putsBack 3 = .ok (.bipush 63, 2) := by decide +kernel
theorem dX6_putsBack_5 : decode cX6_putsBack 5 = .ok (.if_icmp .ge 21, 3) := by decide +kernel
theorem dX6_putsBack_8 : decode cX6_putsBack 8 = .ok (.aload_n 0, 1) := by decide +kernel
theorem dX6_putsBack_9 : decode cX6_putsBack 9 = .ok (.getfield 7, 3) := by decide +kernel
theorem dX6_putsBack_12 : decode cX6_putsBack 12 = .ok (.iload_n 1, 1) := by decide +kernel
theorem dX6_putsBack_13 : decode cX6_putsBack 13 = .ok (.aload_n 0, 1) := by decide +kernel
theorem dX6_putsBack_14 : decode cX6_putsBack 14 = .ok (.getfield 16, 3) := by decide +kernel
theorem dX6_putsBack_17 : decode cX6_putsBack 17 = .ok (.iload_n 1, 1) := by decide +kernel
theorem dX6_putsBack_18 : decode cX6_putsBack 18 = .ok (.iaload, 1) := by decide +kernel
theorem dX6_putsBack_19 : decode cX6_putsBack 19 = .ok (.iastore, 1) := by decide +kernel
theorem dX6_putsBack_20 : decode cX6_putsBack 20 = .ok (.iinc 1 1, 3) := by decide +kernel
theorem dX6_putsBack_23 : decode cX6_putsBack 23 = .ok (.goto (-21), 3) := by decide +kernel
theorem dX6_putsBack_26 : decode cX6_putsBack 26 = .ok (.return_, 1) := by decide +kernel
theorem dX6_laysAside_0 : decode cX6_laysAside 0 = .ok (.iconst 0, 1) := by decide +kernel
theorem dX6_laysAside_1 : decode cX6_laysAside 1 = .ok (.istore_n 1, 1) := by decide +kernel
theorem dX6_laysAside_2 : decode cX6_laysAside 2 = .ok (.iload_n 1, 1) := by decide +kernel
theorem dX6_laysAside_3 : decode cX6_laysAside 3 = .ok (.bipush 63, 2) := by decide +kernel
theorem dX6_laysAside_5 : decode cX6_laysAside 5 = .ok (.if_icmp .ge 21, 3) := by decide +kernel
theorem dX6_laysAside_8 : decode cX6_laysAside 8 = .ok (.aload_n 0, 1) := by decide +kernel
theorem dX6_laysAside_9 : decode cX6_laysAside 9 = .ok (.getfield 19, 3) := by decide +kernel
theorem dX6_laysAside_12 : decode cX6_laysAside 12 = .ok (.iload_n 1, 1) := by decide +kernel
theorem dX6_laysAside_13 : decode cX6_laysAside 13 = .ok (.aload_n 0, 1) := by decide +kernel
theorem dX6_laysAside_14 : decode cX6_laysAside 14 = .ok (.getfield 7, 3) := by decide +kernel
theorem dX6_laysAside_17 : decode cX6_laysAside 17 = .ok (.iload_n 1, 1) := by decide +kernel
theorem dX6_laysAside_18 : decode cX6_laysAside 18 = .ok (.iaload, 1) := by decide +kernel
theorem dX6_laysAside_19 : decode cX6_laysAside 19 = .ok (.iastore, 1) := by decide +kernel
theorem dX6_laysAside_20 : decode cX6_laysAside 20 = .ok (.iinc 1 1, 3) := by decide +kernel
theorem dX6_laysAside_23 : decode cX6_laysAside 23 = .ok (.goto (-21), 3) := by decide +kernel
theorem dX6_laysAside_26 : decode cX6_laysAside 26 = .ok (.return_, 1) := by decide +kernel
theorem dX6_takesBack_0 : decode cX6_takesBack 0 = .ok (.iconst 0, 1) := by decide +kernel
theorem dX6_takesBack_1 : decode cX6_takesBack 1 = .ok (.istore_n 2, 1) := by decide +kernel
theorem dX6_takesBack_2 : decode cX6_takesBack 2 = .ok (.iload_n 2, 1) := by decide +kernel
theorem dX6_takesBack_3 : decode cX6_takesBack 3 = .ok (.bipush 63, 2) := by decide +kernel
theorem dX6_takesBack_5 : decode cX6_takesBack 5 = .ok (.if_icmp .ge 21, 3) := by decide +kernel
theorem dX6_takesBack_8 : decode cX6_takesBack 8 = .ok (.aload_n 0, 1) := by decide +kernel
theorem dX6_takesBack_9 : decode cX6_takesBack 9 = .ok (.getfield 7, 3) := by decide +kernel
theorem dX6_takesBack_12 : decode cX6_takesBack 12 = .ok (.iload_n 2, 1) := by decide +kernel
theorem dX6_takesBack_13 : decode cX6_takesBack 13 = .ok (.aload_n 0, 1) := by decide +kernel
theorem dX6_takesBack_14 : decode cX6_takesBack 14 = .ok (.getfield 19, 3) := by decide +kernel
theorem dX6_takesBack_17 : decode cX6_takesBack 17 = .ok (.iload_n 2, 1) := by decide +kernel
theorem dX6_takesBack_18 : decode cX6_takesBack 18 = .ok (.iaload, 1) := by decide +kernel
theorem dX6_takesBack_19 : decode cX6_takesBack 19 = .ok (.iastore, 1) := by decide +kernel
theorem dX6_takesBack_20 : decode cX6_takesBack 20 = .ok (.iinc 2 1, 3) := by decide +kernel
theorem dX6_takesBack_23 : decode cX6_takesBack 23 = .ok (.goto (-21), 3) := by decide +kernel
theorem dX6_takesBack_26 : decode cX6_takesBack 26 = .ok (.iload_n 1, 1) := by decide +kernel
theorem dX6_takesBack_27 : decode cX6_takesBack 27 = .ok (.ireturn, 1) := by decide +kernel
theorem dX6_becomes_0 : decode cX6_becomes 0 = .ok (.aload_n 0, 1) := by decide +kernel
theorem dX6_becomes_1 : decode cX6_becomes 1 = .ok (.getfield 7, 3) := by decide +kernel
theorem dX6_becomes_4 : decode cX6_becomes 4 = .ok (.iload_n 1, 1) := by decide +kernel
theorem dX6_becomes_5 : decode cX6_becomes 5 = .ok (.iaload, 1) := by decide +kernel
theorem dX6_becomes_6 : decode cX6_becomes 6 = .ok (.istore_n 3, 1) := by decide +kernel
theorem dX6_becomes_7 : decode cX6_becomes 7 = .ok (.aload_n 0, 1) := by decide +kernel
theorem dX6_becomes_8 : decode cX6_becomes 8 = .ok (.getfield 7, 3) := by decide +kernel
theorem dX6_becomes_11 : decode cX6_becomes 11 = .ok (.iload_n 1, 1) := by decide +kernel
theorem dX6_becomes_12 : decode cX6_becomes 12 = .ok (.iload_n 2, 1) := by decide +kernel
theorem dX6_becomes_13 : decode cX6_becomes 13 = .ok (.iastore, 1) := by decide +kernel
theorem dX6_becomes_14 : decode cX6_becomes 14 = .ok (.iload_n 3, 1) := by decide +kernel
theorem dX6_becomes_15 : decode cX6_becomes 15 = .ok (.ireturn, 1) := by decide +kernel
theorem dX6_isPlace_0 : decode cX6_isPlace 0 = .ok (.iload_n 0, 1) := by decide +kernel
theorem dX6_isPlace_1 : decode cX6_isPlace 1 = .ok (.i2l, 1) := by decide +kernel
theorem dX6_isPlace_2 : decode cX6_isPlace 2 = .ok (.lconst 0, 1) := by decide +kernel
theorem dX6_isPlace_3 : decode cX6_isPlace 3 = .ok (.ldc2_w 45, 3) := by decide +kernel
theorem dX6_isPlace_6 : decode cX6_isPlace 6 = .ok (.invokestatic 47, 3) := by decide +kernel
theorem dX6_isPlace_9 : decode cX6_isPlace 9 = .ok (.ireturn, 1) := by decide +kernel
theorem dX6_isHanger_0 : decode cX6_isHanger 0 = .ok (.iload_n 1, 1) := by decide +kernel
theorem dX6_isHanger_1 : decode cX6_isHanger 1 = .ok (.i2l, 1) := by decide +kernel
theorem dX6_isHanger_2 : decode cX6_isHanger 2 = .ok (.lconst 0, 1) := by decide +kernel
theorem dX6_isHanger_3 : decode cX6_isHanger 3 = .ok (.aload_n 0, 1) := by decide +kernel
theorem dX6_isHanger_4 : decode cX6_isHanger 4 = .ok (.getfield 7, 3) := by decide +kernel
theorem dX6_isHanger_7 : decode cX6_isHanger 7 = .ok (.iconst 0, 1) := by decide +kernel
theorem dX6_isHanger_8 : decode cX6_isHanger 8 = .ok (.iaload, 1) := by decide +kernel
theorem dX6_isHanger_9 : decode cX6_isHanger 9 = .ok (.iconst 1, 1) := by decide +kernel
theorem dX6_isHanger_10 : decode cX6_isHanger 10 = .ok (.isub, 1) := by decide +kernel
theorem dX6_isHanger_11 : decode cX6_isHanger 11 = .ok (.i2l, 1) := by decide +kernel
theorem dX6_isHanger_12 : decode cX6_isHanger 12 = .ok (.invokestatic 47, 3) := by decide +kernel
theorem dX6_isHanger_15 : decode cX6_isHanger 15 = .ok (.ireturn, 1) := by decide +kernel
theorem dX6_isKind_0 : decode cX6_isKind 0 = .ok (.iload_n 0, 1) := by decide +kernel
theorem dX6_isKind_1 : decode cX6_isKind 1 = .ok (.i2l, 1) := by decide +kernel
theorem dX6_isKind_2 : decode cX6_isKind 2 = .ok (.lconst 0, 1) := by decide +kernel
theorem dX6_isKind_3 : decode cX6_isKind 3 = .ok (.ldc2_w 51, 3) := by decide +kernel
theorem dX6_isKind_6 : decode cX6_isKind 6 = .ok (.invokestatic 47, 3) := by decide +kernel
theorem dX6_isKind_9 : decode cX6_isKind 9 = .ok (.ireturn, 1) := by decide +kernel
theorem dX6_spotOf_0 : decode cX6_spotOf 0 = .ok (.iconst 3, 1) := by decide +kernel
theorem dX6_spotOf_1 : decode cX6_spotOf 1 = .ok (.iconst 5, 1) := by decide +kernel
theorem dX6_spotOf_2 : decode cX6_spotOf 2 = .ok (.iload_n 0, 1) := by decide +kernel
theorem dX6_spotOf_3 : decode cX6_spotOf 3 = .ok (.imul, 1) := by decide +kernel
theorem dX6_spotOf_4 : decode cX6_spotOf 4 = .ok (.iadd, 1) := by decide +kernel
theorem dX6_spotOf_5 : decode cX6_spotOf 5 = .ok (.iload_n 1, 1) := by decide +kernel
theorem dX6_spotOf_6 : decode cX6_spotOf 6 = .ok (.iadd, 1) := by decide +kernel
theorem dX6_spotOf_7 : decode cX6_spotOf 7 = .ok (.ireturn, 1) := by decide +kernel
theorem dX6_its_0 : decode cX6_its 0 = .ok (.aload_n 0, 1) := by decide +kernel
theorem dX6_its_1 : decode cX6_its 1 = .ok (.getfield 7, 3) := by decide +kernel
theorem dX6_its_4 : decode cX6_its 4 = .ok (.iload_n 1, 1) := by decide +kernel
theorem dX6_its_5 : decode cX6_its 5 = .ok (.iload_n 2, 1) := by decide +kernel
theorem dX6_its_6 : decode cX6_its 6 = .ok (.invokestatic 53, 3) := by decide +kernel
theorem dX6_its_9 : decode cX6_its 9 = .ok (.iaload, 1) := by decide +kernel
theorem dX6_its_10 : decode cX6_its 10 = .ok (.ireturn, 1) := by decide +kernel
theorem dX6_isOn_0 : decode cX6_isOn 0 = .ok (.aload_n 0, 1) := by decide +kernel
theorem dX6_isOn_1 : decode cX6_isOn 1 = .ok (.iload_n 1, 1) := by decide +kernel
theorem dX6_isOn_2 : decode cX6_isOn 2 = .ok (.iconst 1, 1) := by decide +kernel
theorem dX6_isOn_3 : decode cX6_isOn 3 = .ok (.invokevirtual 57, 3) := by decide +kernel
theorem dX6_isOn_6 : decode cX6_isOn 6 = .ok (.ifCond .lt 7, 3) := by decide +kernel
theorem dX6_isOn_9 : decode cX6_isOn 9 = .ok (.iconst 1, 1) := by decide +kernel
theorem dX6_isOn_10 : decode cX6_isOn 10 = .ok (.goto 4, 3) := by decide +kernel
theorem dX6_isOn_13 : decode cX6_isOn 13 = .ok (.iconst 0, 1) := by decide +kernel
theorem dX6_isOn_14 : decode cX6_isOn 14 = .ok (.ireturn, 1) := by decide +kernel
theorem dX6_adds_0 : decode cX6_adds 0 = .ok (.aload_n 0, 1) := by decide +kernel
theorem dX6_adds_1 : decode cX6_adds 1 = .ok (.getfield 7, 3) := by decide +kernel
theorem dX6_adds_4 : decode cX6_adds 4 = .ok (.iconst 0, 1) := by decide +kernel
theorem dX6_adds_5 : decode cX6_adds 5 = .ok (.iaload, 1) := by decide +kernel
theorem dX6_adds_6 : decode cX6_adds 6 = .ok (.istore_n 2, 1) := by decide +kernel
theorem dX6_adds_7 : decode cX6_adds 7 = .ok (.iconst 0, 1) := by decide +kernel
theorem dX6_adds_8 : decode cX6_adds 8 = .ok (.istore_n 3, 1) := by decide +kernel
theorem dX6_adds_9 : decode cX6_adds 9 = .ok (.iload_n 3, 1) := by decide +kernel
theorem dX6_adds_10 : decode cX6_adds 10 = .ok (.iconst 5, 1) := by decide +kernel
theorem dX6_adds_11 : decode cX6_adds 11 = .ok (.if_icmp .ge 20, 3) := by decide +kernel
theorem dX6_adds_14 : decode cX6_adds 14 = .ok (.aload_n 0, 1) := by decide +kernel
theorem dX6_adds_15 : decode cX6_adds 15 = .ok (.getfield 7, 3) := by decide +kernel
theorem dX6_adds_18 : decode cX6_adds 18 = .ok (.iload_n 2, 1) := by decide +kernel
theorem dX6_adds_19 : decode cX6_adds 19 = .ok (.iload_n 3, 1) := by decide +kernel
theorem dX6_adds_20 : decode cX6_adds 20 = .ok (.invokestatic 53, 3) := by decide +kernel
theorem dX6_adds_23 : decode cX6_adds 23 = .ok (.iconst 0, 1) := by decide +kernel
theorem dX6_adds_24 : decode cX6_adds 24 = .ok (.iastore, 1) := by decide +kernel
theorem dX6_adds_25 : decode cX6_adds 25 = .ok (.iinc 3 1, 3) := by decide +kernel
theorem dX6_adds_28 : decode cX6_adds 28 = .ok (.goto (-19), 3) := by decide +kernel
theorem dX6_adds_31 : decode cX6_adds 31 = .ok (.aload_n 0, 1) := by decide +kernel
theorem dX6_adds_32 : decode cX6_adds 32 = .ok (.getfield 7, 3) := by decide +kernel
theorem dX6_adds_35 : decode cX6_adds 35 = .ok (.iload_n 2, 1) := by decide +kernel
theorem dX6_adds_36 : decode cX6_adds 36 = .ok (.iconst 0, 1) := by decide +kernel
theorem dX6_adds_37 : decode cX6_adds 37 = .ok (.invokestatic 53, 3) := by decide +kernel
theorem dX6_adds_40 : decode cX6_adds 40 = .ok (.iload_n 1, 1) := by decide +kernel
theorem dX6_adds_41 : decode cX6_adds 41 = .ok (.iastore, 1) := by decide +kernel
theorem dX6_adds_42 : decode cX6_adds 42 = .ok (.aload_n 0, 1) := by decide +kernel
theorem dX6_adds_43 : decode cX6_adds 43 = .ok (.getfield 7, 3) := by decide +kernel
theorem dX6_adds_46 : decode cX6_adds 46 = .ok (.iload_n 2, 1) := by decide +kernel
theorem dX6_adds_47 : decode cX6_adds 47 = .ok (.iconst 1, 1) := by decide +kernel
theorem dX6_adds_48 : decode cX6_adds 48 = .ok (.invokestatic 53, 3) := by decide +kernel
theorem dX6_adds_51 : decode cX6_adds 51 = .ok (.iconst (-1), 1) := by decide +kernel
theorem dX6_adds_52 : decode cX6_adds 52 = .ok (.iastore, 1) := by decide +kernel
theorem dX6_adds_53 : decode cX6_adds 53 = .ok (.aload_n 0, 1) := by decide +kernel
theorem dX6_adds_54 : decode cX6_adds 54 = .ok (.getfield 7, 3) := by decide +kernel
theorem dX6_adds_57 : decode cX6_adds 57 = .ok (.iconst 0, 1) := by decide +kernel
theorem dX6_adds_58 : decode cX6_adds 58 = .ok (.dup2, 1) := by decide +kernel
theorem dX6_adds_59 : decode cX6_adds 59 = .ok (.iaload, 1) := by decide +kernel
theorem dX6_adds_60 : decode cX6_adds 60 = .ok (.iconst 1, 1) := by decide +kernel
theorem dX6_adds_61 : decode cX6_adds 61 = .ok (.iadd, 1) := by decide +kernel
theorem dX6_adds_62 : decode cX6_adds 62 = .ok (.iastore, 1) := by decide +kernel
theorem dX6_adds_63 : decode cX6_adds 63 = .ok (.iload_n 2, 1) := by decide +kernel
theorem dX6_adds_64 : decode cX6_adds 64 = .ok (.ireturn, 1) := by decide +kernel
theorem dX6_hanger_0 : decode cX6_hanger 0 = .ok (.iload_n 1, 1) := by decide +kernel
theorem dX6_hanger_1 : decode cX6_hanger 1 = .ok (.invokestatic 60, 3) := by decide +kernel
theorem dX6_hanger_4 : decode cX6_hanger 4 = .ok (.ifCond .ne 10, 3) := by decide +kernel
theorem dX6_hanger_7 : decode cX6_hanger 7 = .ok (.aload_n 0, 1) := by decide +kernel
theorem dX6_hanger_8 : decode cX6_hanger 8 = .ok (.ldc 44, 2) := by decide +kernel
theorem dX6_hanger_10 : decode cX6_hanger 10 = .ok (.invokevirtual 64, 3) := by decide +kernel
theorem dX6_hanger_13 : decode cX6_hanger 13 = .ok (.ireturn, 1) := by decide +kernel
theorem dX6_hanger_14 : decode cX6_hanger 14 = .ok (.aload_n 0, 1) := by decide +kernel
theorem dX6_hanger_15 : decode cX6_hanger 15 = .ok (.getfield 7, 3) := by decide +kernel
theorem dX6_hanger_18 : decode cX6_hanger 18 = .ok (.iconst 0, 1) := by decide +kernel
theorem dX6_hanger_19 : decode cX6_hanger 19 = .ok (.iaload, 1) := by decide +kernel
theorem dX6_hanger_20 : decode cX6_hanger 20 = .ok (.bipush 12, 2) := by decide +kernel
theorem dX6_hanger_22 : decode cX6_hanger 22 = .ok (.if_icmp .ne 12, 3) := by decide +kernel
theorem dX6_hanger_25 : decode cX6_hanger 25 = .ok (.aload_n 0, 1) := by decide +kernel
theorem dX6_hanger_26 : decode cX6_hanger 26 = .ok (.ldc 68, 2) := by decide +kernel
theorem dX6_hanger_28 : decode cX6_hanger 28 = .ok (.invokevirtual 64, 3) := by decide +kernel
theorem dX6_hanger_31 : decode cX6_hanger 31 = .ok (.goto 8, 3) := by decide +kernel
theorem dX6_hanger_34 : decode cX6_hanger 34 = .ok (.aload_n 0, 1) := by decide +kernel
theorem dX6_hanger_35 : decode cX6_hanger 35 = .ok (.iload_n 1, 1) := by decide +kernel
theorem dX6_hanger_36 : decode cX6_hanger 36 = .ok (.invokevirtual 69, 3) := by decide +kernel
theorem dX6_hanger_39 : decode cX6_hanger 39 = .ok (.ireturn, 1) := by decide +kernel
theorem dX6_holds_0 : decode cX6_holds 0 = .ok (.aload_n 0, 1) := by decide +kernel
theorem dX6_holds_1 : decode cX6_holds 1 = .ok (.iload_n 1, 1) := by decide +kernel
theorem dX6_holds_2 : decode cX6_holds 2 = .ok (.iconst 0, 1) := by decide +kernel
theorem dX6_holds_3 : decode cX6_holds 3 = .ok (.invokevirtual 57, 3) := by decide +kernel
theorem dX6_holds_6 : decode cX6_holds 6 = .ok (.tableswitch 47 1 5 #[34, 36, 39, 41, 44], 34) := by decide +kernel
theorem dX6_holds_40 : decode cX6_holds 40 = .ok (.iconst 3, 1) := by decide +kernel
theorem dX6_holds_41 : decode cX6_holds 41 = .ok (.ireturn, 1) := by decide +kernel
theorem dX6_holds_42 : decode cX6_holds 42 = .ok (.bipush 8, 2) := by decide +kernel
theorem dX6_holds_44 : decode cX6_holds 44 = .ok (.ireturn, 1) := by decide +kernel
theorem dX6_holds_45 : decode cX6_holds 45 = .ok (.iconst 2, 1) := by decide +kernel
theorem dX6_holds_46 : decode cX6_holds 46 = .ok (.ireturn, 1) := by decide +kernel
theorem dX6_holds_47 : decode cX6_holds 47 = .ok (.bipush 7, 2) := by decide +kernel
theorem dX6_holds_49 : decode cX6_holds 49 = .ok (.ireturn, 1) := by decide +kernel
theorem dX6_holds_50 : decode cX6_holds 50 = .ok (.bipush 9, 2) := by decide +kernel
theorem dX6_holds_52 : decode cX6_holds 52 = .ok (.ireturn, 1) := by decide +kernel
theorem dX6_holds_53 : decode cX6_holds 53 = .ok (.iconst 5, 1) := by decide +kernel
theorem dX6_holds_54 : decode cX6_holds 54 = .ok (.ireturn, 1) := by decide +kernel
theorem dX6_needs_0 : decode cX6_needs 0 = .ok (.aload_n 0, 1) := by decide +kernel
theorem dX6_needs_1 : decode cX6_needs 1 = .ok (.iload_n 1, 1) := by decide +kernel
theorem dX6_needs_2 : decode cX6_needs 2 = .ok (.iconst 0, 1) := by decide +kernel
theorem dX6_needs_3 : decode cX6_needs 3 = .ok (.invokevirtual 57, 3) := by decide +kernel
theorem dX6_needs_6 : decode cX6_needs 6 = .ok (.istore_n 2, 1) := by decide +kernel
theorem dX6_needs_7 : decode cX6_needs 7 = .ok (.iload_n 2, 1) := by decide +kernel
theorem dX6_needs_8 : decode cX6_needs 8 = .ok (.iconst 2, 1) := by decide +kernel
theorem dX6_needs_9 : decode cX6_needs 9 = .ok (.if_icmp .eq 13, 3) := by decide +kernel
theorem dX6_needs_12 : decode cX6_needs 12 = .ok (.iload_n 2, 1) := by decide +kernel
theorem dX6_needs_13 : decode cX6_needs 13 = .ok (.iconst 3, 1) := by decide +kernel
theorem dX6_needs_14 : decode cX6_needs 14 = .ok (.if_icmp .eq 8, 3) := by decide +kernel
theorem dX6_needs_17 : decode cX6_needs 17 = .ok (.iload_n 2, 1) := by decide +kernel
theorem dX6_needs_18 : decode cX6_needs 18 = .ok (.iconst 5, 1) := by decide +kernel
theorem dX6_needs_19 : decode cX6_needs 19 = .ok (.if_icmp .ne 7, 3) := by decide +kernel
theorem dX6_needs_22 : decode cX6_needs 22 = .ok (.iconst 2, 1) := by decide +kernel
theorem dX6_needs_23 : decode cX6_needs 23 = .ok (.goto 4, 3) := by decide +kernel
theorem dX6_needs_26 : decode cX6_needs 26 = .ok (.iconst 1, 1) := by decide +kernel
theorem dX6_needs_27 : decode cX6_needs 27 = .ok (.ireturn, 1) := by decide +kernel
theorem dX6_of_0 : decode cX6_of 0 = .ok (.aload_n 0, 1) := by decide +kernel
theorem dX6_of_1 : decode cX6_of 1 = .ok (.iload_n 1, 1) := by decide +kernel
theorem dX6_of_2 : decode cX6_of 2 = .ok (.invokevirtual 72, 3) := by decide +kernel
theorem dX6_of_5 : decode cX6_of 5 = .ok (.ifCond .eq 15, 3) := by decide +kernel
theorem dX6_of_8 : decode cX6_of 8 = .ok (.iload_n 2, 1) := by decide +kernel
theorem dX6_of_9 : decode cX6_of 9 = .ok (.i2l, 1) := by decide +kernel
theorem dX6_of_10 : decode cX6_of 10 = .ok (.lconst 0, 1) := by decide +kernel
theorem dX6_of_11 : decode cX6_of 11 = .ok (.ldc2_w 75, 3) := by decide +kernel
theorem dX6_of_14 : decode cX6_of 14 = .ok (.invokestatic 47, 3) := by decide +kernel
theorem dX6_of_17 : decode cX6_of 17 = .ok (.ifCond .ne 10, 3) := by decide +kernel
theorem dX6_of_20 : decode cX6_of 20 = .ok (.aload_n 0, 1) := by decide +kernel
theorem dX6_of_21 : decode cX6_of 21 = .ok (.ldc 44, 2) := by decide +kernel
theorem dX6_of_23 : decode cX6_of 23 = .ok (.invokevirtual 64, 3) := by decide +kernel
theorem dX6_of_26 : decode cX6_of 26 = .ok (.ireturn, 1) := by decide +kernel
theorem dX6_of_27 : decode cX6_of 27 = .ok (.iload_n 2, 1) := by decide +kernel
theorem dX6_of_28 : decode cX6_of 28 = .ok (.iconst 5, 1) := by decide +kernel
theorem dX6_of_29 : decode cX6_of 29 = .ok (.if_icmp .ge 12, 3) := by decide +kernel
theorem dX6_of_32 : decode cX6_of 32 = .ok (.aload_n 0, 1) := by decide +kernel
theorem dX6_of_33 : decode cX6_of 33 = .ok (.iload_n 1, 1) := by decide +kernel
theorem dX6_of_34 : decode cX6_of 34 = .ok (.iload_n 2, 1) := by decide +kernel
theorem dX6_of_35 : decode cX6_of 35 = .ok (.invokevirtual 57, 3) := by decide +kernel
theorem dX6_of_38 : decode cX6_of 38 = .ok (.goto 21, 3) := by decide +kernel
theorem dX6_of_41 : decode cX6_of 41 = .ok (.iload_n 2, 1) := by decide +kernel
theorem dX6_of_42 : decode cX6_of 42 = .ok (.iconst 5, 1) := by decide +kernel
theorem dX6_of_43 : decode cX6_of 43 = .ok (.if_icmp .ne 11, 3) := by decide +kernel
theorem dX6_of_46 : decode cX6_of 46 = .ok (.aload_n 0, 1) := by decide +kernel
theorem dX6_of_47 : decode cX6_of 47 = .ok (.iload_n 1, 1) := by decide +kernel
theorem dX6_of_48 : decode cX6_of 48 = .ok (.invokevirtual 77, 3) := by decide +kernel
theorem dX6_of_51 : decode cX6_of 51 = .ok (.goto 8, 3) := by decide +kernel
theorem dX6_of_54 : decode cX6_of 54 = .ok (.aload_n 0, 1) := by decide +kernel
theorem dX6_of_55 : decode cX6_of 55 = .ok (.iload_n 1, 1) := by decide +kernel
theorem dX6_of_56 : decode cX6_of 56 = .ok (.invokevirtual 80, 3) := by decide +kernel
theorem dX6_of_59 : decode cX6_of 59 = .ok (.ireturn, 1) := by decide +kernel
theorem dX6_set_0 : decode cX6_set 0 = .ok (.iload_n 2, 1) := by decide +kernel
theorem dX6_set_1 : decode cX6_set 1 = .ok (.iconst 3, 1) := by decide +kernel
theorem dX6_set_2 : decode cX6_set 2 = .ok (.if_icmp .ne 15, 3) := by decide +kernel
theorem dX6_set_5 : decode cX6_set 5 = .ok (.iload_n 3, 1) := by decide +kernel
theorem dX6_set_6 : decode cX6_set 6 = .ok (.i2l, 1) := by decide +kernel
theorem dX6_set_7 : decode cX6_set 7 = .ok (.lconst 0, 1) := by decide +kernel
theorem dX6_set_8 : decode cX6_set 8 = .ok (.ldc2_w 83, 3) := by decide +kernel
theorem dX6_set_11 : decode cX6_set 11 = .ok (.invokestatic 47, 3) := by decide +kernel
theorem dX6_set_14 : decode cX6_set 14 = .ok (.goto 25, 3) := by decide +kernel
theorem dX6_set_17 : decode cX6_set 17 = .ok (.iload_n 2, 1) := by decide +kernel
theorem dX6_set_18 : decode cX6_set 18 = .ok (.iconst 4, 1) := by decide +kernel
theorem dX6_set_19 : decode cX6_set 19 = .ok (.if_icmp .ne 19, 3) := by decide +kernel
theorem dX6_set_22 : decode cX6_set 22 = .ok (.iload_n 3, 1) := by decide +kernel
theorem dX6_set_23 : decode cX6_set 23 = .ok (.i2l, 1) := by decide +kernel
theorem dX6_set_24 : decode cX6_set 24 = .ok (.lconst 0, 1) := by decide +kernel
theorem dX6_set_25 : decode cX6_set 25 = .ok (.ldc2_w 85, 3) := by decide +kernel
theorem dX6_set_28 : decode cX6_set 28 = .ok (.invokestatic 47, 3) := by decide +kernel
theorem dX6_set_31 : decode cX6_set 31 = .ok (.ifCond .eq 7, 3) := by decide +kernel
theorem dX6_set_34 : decode cX6_set 34 = .ok (.iconst 1, 1) := by decide +kernel
theorem dX6_set_35 : decode cX6_set 35 = .ok (.goto 4, 3) := by decide +kernel
theorem dX6_set_38 : decode cX6_set 38 = .ok (.iconst 0, 1) := by decide +kernel
theorem dX6_set_39 : decode cX6_set 39 = .ok (.istore 4, 2) := by decide +kernel
theorem dX6_set_41 : decode cX6_set 41 = .ok (.aload_n 0, 1) := by decide +kernel
theorem dX6_set_42 : decode cX6_set 42 = .ok (.iload_n 1, 1) := by decide +kernel
theorem dX6_set_43 : decode cX6_set 43 = .ok (.invokevirtual 72, 3) := by decide +kernel
theorem dX6_set_46 : decode cX6_set 46 = .ok (.ifCond .eq 21, 3) := by decide +kernel
theorem dX6_set_49 : decode cX6_set 49 = .ok (.iload 4, 2) := by decide +kernel
theorem dX6_set_51 : decode cX6_set 51 = .ok (.ifCond .eq 16, 3) := by decide +kernel
theorem dX6_set_54 : decode cX6_set 54 = .ok (.aload_n 0, 1) := by decide +kernel
theorem dX6_set_55 : decode cX6_set 55 = .ok (.iload_n 1, 1) := by decide +kernel
theorem dX6_set_56 : decode cX6_set 56 = .ok (.iload_n 2, 1) := by decide +kernel
theorem dX6_set_57 : decode cX6_set 57 = .ok (.invokestatic 53, 3) := by decide +kernel
theorem dX6_set_60 : decode cX6_set 60 = .ok (.iload_n 3, 1) := by decide +kernel
theorem dX6_set_61 : decode cX6_set 61 = .ok (.invokevirtual 87, 3) := by decide +kernel
theorem dX6_set_64 : decode cX6_set 64 = .ok (.goto 9, 3) := by decide +kernel
theorem dX6_set_67 : decode cX6_set 67 = .ok (.aload_n 0, 1) := by decide +kernel
theorem dX6_set_68 : decode cX6_set 68 = .ok (.ldc 44, 2) := by decide +kernel
theorem dX6_set_70 : decode cX6_set 70 = .ok (.invokevirtual 64, 3) := by decide +kernel
theorem dX6_set_73 : decode cX6_set 73 = .ok (.ireturn, 1) := by decide +kernel
theorem dX6_turn_0 : decode cX6_turn 0 = .ok (.aload_n 0, 1) := by decide +kernel
theorem dX6_turn_1 : decode cX6_turn 1 = .ok (.iload_n 1, 1) := by decide +kernel
theorem dX6_turn_2 : decode cX6_turn 2 = .ok (.invokevirtual 72, 3) := by decide +kernel
theorem dX6_turn_5 : decode cX6_turn 5 = .ok (.ifCond .eq 23, 3) := by decide +kernel
theorem dX6_turn_8 : decode cX6_turn 8 = .ok (.iload_n 2, 1) := by decide +kernel
theorem dX6_turn_9 : decode cX6_turn 9 = .ok (.invokestatic 60, 3) := by decide +kernel
theorem dX6_turn_12 : decode cX6_turn 12 = .ok (.ifCond .eq 16, 3) := by decide +kernel
theorem dX6_turn_15 : decode cX6_turn 15 = .ok (.aload_n 0, 1) := by decide +kernel
theorem dX6_turn_16 : decode cX6_turn 16 = .ok (.iload_n 1, 1) := by decide +kernel
theorem dX6_turn_17 : decode cX6_turn 17 = .ok (.iconst 0, 1) := by decide +kernel
theorem dX6_turn_18 : decode cX6_turn 18 = .ok (.invokestatic 53, 3) := by decide +kernel
theorem dX6_turn_21 : decode cX6_turn 21 = .ok (.iload_n 2, 1) := by decide +kernel
theorem dX6_turn_22 : decode cX6_turn 22 = .ok (.invokevirtual 87, 3) := by decide +kernel
theorem dX6_turn_25 : decode cX6_turn 25 = .ok (.goto 9, 3) := by decide +kernel
theorem dX6_turn_28 : decode cX6_turn 28 = .ok (.aload_n 0, 1) := by decide +kernel
theorem dX6_turn_29 : decode cX6_turn 29 = .ok (.ldc 44, 2) := by decide +kernel
theorem dX6_turn_31 : decode cX6_turn 31 = .ok (.invokevirtual 64, 3) := by decide +kernel
theorem dX6_turn_34 : decode cX6_turn 34 = .ok (.ireturn, 1) := by decide +kernel
theorem dX6_isUnder_0 : decode cX6_isUnder 0 = .ok (.iload_n 1, 1) := by decide +kernel
theorem dX6_isUnder_1 : decode cX6_isUnder 1 = .ok (.ifCond .eq 33, 3) := by decide +kernel
theorem dX6_isUnder_4 : decode cX6_isUnder 4 = .ok (.iload_n 0, 1) := by decide +kernel
theorem dX6_isUnder_5 : decode cX6_isUnder 5 = .ok (.iload_n 1, 1) := by decide +kernel
theorem dX6_isUnder_6 : decode cX6_isUnder 6 = .ok (.if_icmp .eq 28, 3) := by decide +kernel
theorem dX6_isUnder_9 : decode cX6_isUnder 9 = .ok (.iload_n 0, 1) := by decide +kernel
theorem dX6_isUnder_10 : decode cX6_isUnder 10 = .ok (.iconst 3, 1) := by decide +kernel
theorem dX6_isUnder_11 : decode cX6_isUnder 11 = .ok (.if_icmp .eq 8, 3) := by decide +kernel
theorem dX6_isUnder_14 : decode cX6_isUnder 14 = .ok (.iload_n 0, 1) := by decide +kernel
theorem dX6_isUnder_15 : decode cX6_isUnder 15 = .ok (.iconst 4, 1) := by decide +kernel
theorem dX6_isUnder_16 : decode cX6_isUnder 16 = .ok (.if_icmp .ne 8, 3) := by decide +kernel
theorem dX6_isUnder_19 : decode cX6_isUnder 19 = .ok (.iload_n 1, 1) := by decide +kernel
theorem dX6_isUnder_20 : decode cX6_isUnder 20 = .ok (.iconst 1, 1) := by decide +kernel
theorem dX6_isUnder_21 : decode cX6_isUnder 21 = .ok (.if_icmp .eq 13, 3) := by decide +kernel
theorem dX6_isUnder_24 : decode cX6_isUnder 24 = .ok (.iload_n 0, 1) := by decide +kernel
theorem dX6_isUnder_25 : decode cX6_isUnder 25 = .ok (.iconst 5, 1) := by decide +kernel
theorem dX6_isUnder_26 : decode cX6_isUnder 26 = .ok (.if_icmp .ne 12, 3) := by decide +kernel
theorem dX6_isUnder_29 : decode cX6_isUnder 29 = .ok (.iload_n 1, 1) := by decide +kernel
theorem dX6_isUnder_30 : decode cX6_isUnder 30 = .ok (.iconst 2, 1) := by decide +kernel
theorem dX6_isUnder_31 : decode cX6_isUnder 31 = .ok (.if_icmp .ne 7, 3) := by decide +kernel
theorem dX6_isUnder_34 : decode cX6_isUnder 34 = .ok (.iconst 1, 1) := by decide +kernel
theorem dX6_isUnder_35 : decode cX6_isUnder 35 = .ok (.goto 4, 3) := by decide +kernel
theorem dX6_isUnder_38 : decode cX6_isUnder 38 = .ok (.iconst 0, 1) := by decide +kernel
theorem dX6_isUnder_39 : decode cX6_isUnder 39 = .ok (.ireturn, 1) := by decide +kernel
theorem dX6_as_0 : decode cX6_as 0 = .ok (.aload_n 0, 1) := by decide +kernel
theorem dX6_as_1 : decode cX6_as 1 = .ok (.iload_n 1, 1) := by decide +kernel
theorem dX6_as_2 : decode cX6_as 2 = .ok (.invokevirtual 72, 3) := by decide +kernel
theorem dX6_as_5 : decode cX6_as 5 = .ok (.ifCond .eq 10, 3) := by decide +kernel
theorem dX6_as_8 : decode cX6_as 8 = .ok (.iload_n 2, 1) := by decide +kernel
theorem dX6_as_9 : decode cX6_as 9 = .ok (.invokestatic 60, 3) := by decide +kernel
theorem dX6_as_12 : decode cX6_as 12 = .ok (.ifCond .ne 10, 3) := by decide +kernel
theorem dX6_as_15 : decode cX6_as 15 = .ok (.aload_n 0, 1) := by decide +kernel
theorem dX6_as_16 : decode cX6_as 16 = .ok (.ldc 44, 2) := by decide +kernel
theorem dX6_as_18 : decode cX6_as 18 = .ok (.invokevirtual 64, 3) := by decide +kernel
theorem dX6_as_21 : decode cX6_as 21 = .ok (.ireturn, 1) := by decide +kernel
theorem dX6_as_22 : decode cX6_as 22 = .ok (.aload_n 0, 1) := by decide +kernel
theorem dX6_as_23 : decode cX6_as 23 = .ok (.iload_n 1, 1) := by decide +kernel
theorem dX6_as_24 : decode cX6_as 24 = .ok (.iconst 0, 1) := by decide +kernel
theorem dX6_as_25 : decode cX6_as 25 = .ok (.invokevirtual 57, 3) := by decide +kernel
theorem dX6_as_28 : decode cX6_as 28 = .ok (.iload_n 2, 1) := by decide +kernel
theorem dX6_as_29 : decode cX6_as 29 = .ok (.invokestatic 90, 3) := by decide +kernel
theorem dX6_as_32 : decode cX6_as 32 = .ok (.ifCond .eq 12, 3) := by decide +kernel
theorem dX6_as_35 : decode cX6_as 35 = .ok (.aload_n 0, 1) := by decide +kernel
theorem dX6_as_36 : decode cX6_as 36 = .ok (.iload_n 1, 1) := by decide +kernel
theorem dX6_as_37 : decode cX6_as 37 = .ok (.iconst 3, 1) := by decide +kernel
theorem dX6_as_38 : decode cX6_as 38 = .ok (.invokevirtual 57, 3) := by decide +kernel
theorem dX6_as_41 : decode cX6_as 41 = .ok (.goto 9, 3) := by decide +kernel
theorem dX6_as_44 : decode cX6_as 44 = .ok (.aload_n 0, 1) := by decide +kernel
theorem dX6_as_45 : decode cX6_as 45 = .ok (.ldc 94, 2) := by decide +kernel
theorem dX6_as_47 : decode cX6_as 47 = .ok (.invokevirtual 64, 3) := by decide +kernel
theorem dX6_as_50 : decode cX6_as 50 = .ok (.ireturn, 1) := by decide +kernel
theorem dX6_price_0 : decode cX6_price 0 = .ok (.iload_n 1, 1) := by decide +kernel
theorem dX6_price_1 : decode cX6_price 1 = .ok (.i2l, 1) := by decide +kernel
theorem dX6_price_2 : decode cX6_price 2 = .ok (.lconst 0, 1) := by decide +kernel
theorem dX6_price_3 : decode cX6_price 3 = .ok (.ldc2_w 95, 3) := by decide +kernel
theorem dX6_price_6 : decode cX6_price 6 = .ok (.invokestatic 47, 3) := by decide +kernel
theorem dX6_price_9 : decode cX6_price 9 = .ok (.ifCond .eq 12, 3) := by decide +kernel
theorem dX6_price_12 : decode cX6_price 12 = .ok (.aload_n 0, 1) := by decide +kernel
theorem dX6_price_13 : decode cX6_price 13 = .ok (.iconst 2, 1) := by decide +kernel
theorem dX6_price_14 : decode cX6_price 14 = .ok (.iload_n 1, 1) := by decide +kernel
theorem dX6_price_15 : decode cX6_price 15 = .ok (.invokevirtual 87, 3) := by decide +kernel
theorem dX6_price_18 : decode cX6_price 18 = .ok (.goto 9, 3) := by decide +kernel
theorem dX6_price_21 : decode cX6_price 21 = .ok (.aload_n 0, 1) := by decide +kernel
theorem dX6_price_22 : decode cX6_price 22 = .ok (.ldc 44, 2) := by decide +kernel
theorem dX6_price_24 : decode cX6_price 24 = .ok (.invokevirtual 64, 3) := by decide +kernel
theorem dX6_price_27 : decode cX6_price 27 = .ok (.ireturn, 1) := by decide +kernel
theorem dX6_who_0 : decode cX6_who 0 = .ok (.iconst (-1), 1) := by decide +kernel
theorem dX6_who_1 : decode cX6_who 1 = .ok (.istore_n 2, 1) := by decide +kernel
theorem dX6_who_2 : decode cX6_who 2 = .ok (.iconst 0, 1) := by decide +kernel
theorem dX6_who_3 : decode cX6_who 3 = .ok (.istore_n 3, 1) := by decide +kernel
theorem dX6_who_4 : decode cX6_who 4 = .ok (.iload_n 3, 1) := by decide +kernel
theorem dX6_who_5 : decode cX6_who 5 = .ok (.aload_n 0, 1) := by decide +kernel
theorem dX6_who_6 : decode cX6_who 6 = .ok (.getfield 7, 3) := by decide +kernel
theorem dX6_who_9 : decode cX6_who 9 = .ok (.iconst 0, 1) := by decide +kernel
theorem dX6_who_10 : decode cX6_who 10 = .ok (.iaload, 1) := by decide +kernel
theorem dX6_who_11 : decode cX6_who 11 = .ok (.if_icmp .ge 25, 3) := by decide +kernel
theorem dX6_who_14 : decode cX6_who 14 = .ok (.aload_n 0, 1) := by decide +kernel
theorem dX6_who_15 : decode cX6_who 15 = .ok (.iload_n 3, 1) := by decide +kernel
theorem dX6_who_16 : decode cX6_who 16 = .ok (.iconst 1, 1) := by decide +kernel
theorem dX6_who_17 : decode cX6_who 17 = .ok (.invokevirtual 57, 3) := by decide +kernel
theorem dX6_who_20 : decode cX6_who 20 = .ok (.iload_n 1, 1) := by decide +kernel
theorem dX6_who_21 : decode cX6_who 21 = .ok (.if_icmp .ne 7, 3) := by decide +kernel
theorem dX6_who_24 : decode cX6_who 24 = .ok (.iload_n 3, 1) := by decide +kernel
theorem dX6_who_25 : decode cX6_who 25 = .ok (.goto 4, 3) := by decide +kernel
theorem dX6_who_28 : decode cX6_who 28 = .ok (.iload_n 2, 1) := by decide +kernel
theorem dX6_who_29 : decode cX6_who 29 = .ok (.istore_n 2, 1) := by decide +kernel
theorem dX6_who_30 : decode cX6_who 30 = .ok (.iinc 3 1, 3) := by decide +kernel
theorem dX6_who_33 : decode cX6_who 33 = .ok (.goto (-29), 3) := by decide +kernel
theorem dX6_who_36 : decode cX6_who 36 = .ok (.iload_n 2, 1) := by decide +kernel
theorem dX6_who_37 : decode cX6_who 37 = .ok (.ireturn, 1) := by decide +kernel
theorem dX6_isFree_0 : decode cX6_isFree 0 = .ok (.iload_n 1, 1) := by decide +kernel
theorem dX6_isFree_1 : decode cX6_isFree 1 = .ok (.invokestatic 97, 3) := by decide +kernel
theorem dX6_isFree_4 : decode cX6_isFree 4 = .ok (.ifCond .eq 15, 3) := by decide +kernel
theorem dX6_isFree_7 : decode cX6_isFree 7 = .ok (.aload_n 0, 1) := by decide +kernel
theorem dX6_isFree_8 : decode cX6_isFree 8 = .ok (.iload_n 1, 1) := by decide +kernel
theorem dX6_isFree_9 : decode cX6_isFree 9 = .ok (.invokevirtual 100, 3) := by decide +kernel
theorem dX6_isFree_12 : decode cX6_isFree 12 = .ok (.ifCond .ge 7, 3) := by decide +kernel
theorem dX6_isFree_15 : decode cX6_isFree 15 = .ok (.iconst 1, 1) := by decide +kernel
theorem dX6_isFree_16 : decode cX6_isFree 16 = .ok (.goto 4, 3) := by decide +kernel
theorem dX6_isFree_19 : decode cX6_isFree 19 = .ok (.iconst 0, 1) := by decide +kernel
theorem dX6_isFree_20 : decode cX6_isFree 20 = .ok (.ireturn, 1) := by decide +kernel
theorem dX6_at_0 : decode cX6_at 0 = .ok (.iload_n 1, 1) := by decide +kernel
theorem dX6_at_1 : decode cX6_at 1 = .ok (.invokestatic 97, 3) := by decide +kernel
theorem dX6_at_4 : decode cX6_at 4 = .ok (.ifCond .ne 10, 3) := by decide +kernel
theorem dX6_at_7 : decode cX6_at 7 = .ok (.aload_n 0, 1) := by decide +kernel
theorem dX6_at_8 : decode cX6_at 8 = .ok (.ldc 44, 2) := by decide +kernel
theorem dX6_at_10 : decode cX6_at 10 = .ok (.invokevirtual 64, 3) := by decide +kernel
theorem dX6_at_13 : decode cX6_at 13 = .ok (.ireturn, 1) := by decide +kernel
theorem dX6_at_14 : decode cX6_at 14 = .ok (.aload_n 0, 1) := by decide +kernel
theorem dX6_at_15 : decode cX6_at 15 = .ok (.iload_n 1, 1) := by decide +kernel
theorem dX6_at_16 : decode cX6_at 16 = .ok (.invokevirtual 100, 3) := by decide +kernel
theorem dX6_at_19 : decode cX6_at 19 = .ok (.istore_n 2, 1) := by decide +kernel
theorem dX6_at_20 : decode cX6_at 20 = .ok (.iload_n 2, 1) := by decide +kernel
theorem dX6_at_21 : decode cX6_at 21 = .ok (.ifCond .ge 12, 3) := by decide +kernel
theorem dX6_at_24 : decode cX6_at 24 = .ok (.aload_n 0, 1) := by decide +kernel
theorem dX6_at_25 : decode cX6_at 25 = .ok (.ldc 103, 2) := by decide +kernel
theorem dX6_at_27 : decode cX6_at 27 = .ok (.invokevirtual 64, 3) := by decide +kernel
theorem dX6_at_30 : decode cX6_at 30 = .ok (.goto 4, 3) := by decide +kernel
theorem dX6_at_33 : decode cX6_at 33 = .ok (.iload_n 2, 1) := by decide +kernel
theorem dX6_at_34 : decode cX6_at 34 = .ok (.ireturn, 1) := by decide +kernel
theorem dX6_moved_0 : decode cX6_moved 0 = .ok (.aload_n 0, 1) := by decide +kernel
theorem dX6_moved_1 : decode cX6_moved 1 = .ok (.getfield 7, 3) := by decide +kernel
theorem dX6_moved_4 : decode cX6_moved 4 = .ok (.iconst 1, 1) := by decide +kernel
theorem dX6_moved_5 : decode cX6_moved 5 = .ok (.dup2, 1) := by decide +kernel
theorem dX6_moved_6 : decode cX6_moved 6 = .ok (.iaload, 1) := by decide +kernel
theorem dX6_moved_7 : decode cX6_moved 7 = .ok (.aload_n 0, 1) := by decide +kernel
theorem dX6_moved_8 : decode cX6_moved 8 = .ok (.getfield 7, 3) := by decide +kernel
theorem dX6_moved_11 : decode cX6_moved 11 = .ok (.iconst 1, 1) := by decide +kernel
theorem dX6_moved_12 : decode cX6_moved 12 = .ok (.iaload, 1) := by decide +kernel
theorem dX6_moved_13 : decode cX6_moved 13 = .ok (.sipush 9999, 3) := by decide +kernel
theorem dX6_moved_16 : decode cX6_moved 16 = .ok (.if_icmp .ge 7, 3) := by decide +kernel
theorem dX6_moved_19 : decode cX6_moved 19 = .ok (.iconst 1, 1) := by decide +kernel
theorem dX6_moved_20 : decode cX6_moved 20 = .ok (.goto 4, 3) := by decide +kernel
theorem dX6_moved_23 : decode cX6_moved 23 = .ok (.iconst 0, 1) := by decide +kernel
theorem dX6_moved_24 : decode cX6_moved 24 = .ok (.iadd, 1) := by decide +kernel
theorem dX6_moved_25 : decode cX6_moved 25 = .ok (.iastore, 1) := by decide +kernel
theorem dX6_moved_26 : decode cX6_moved 26 = .ok (.return_, 1) := by decide +kernel
theorem dX6_ones_0 : decode cX6_ones 0 = .ok (.iconst 0, 1) := by decide +kernel
theorem dX6_ones_1 : decode cX6_ones 1 = .ok (.istore_n 1, 1) := by decide +kernel
theorem dX6_ones_2 : decode cX6_ones 2 = .ok (.iload_n 0, 1) := by decide +kernel
theorem dX6_ones_3 : decode cX6_ones 3 = .ok (.istore_n 2, 1) := by decide +kernel
theorem dX6_ones_4 : decode cX6_ones 4 = .ok (.iload_n 2, 1) := by decide +kernel
theorem dX6_ones_5 : decode cX6_ones 5 = .ok (.ifCond .eq 15, 3) := by decide +kernel
theorem dX6_ones_8 : decode cX6_ones 8 = .ok (.iinc 1 1, 3) := by decide +kernel
theorem dX6_ones_11 : decode cX6_ones 11 = .ok (.iload_n 2, 1) := by decide +kernel
theorem dX6_ones_12 : decode cX6_ones 12 = .ok (.iload_n 2, 1) := by decide +kernel
theorem dX6_ones_13 : decode cX6_ones 13 = .ok (.iconst 1, 1) := by decide +kernel
theorem dX6_ones_14 : decode cX6_ones 14 = .ok (.isub, 1) := by decide +kernel
theorem dX6_ones_15 : decode cX6_ones 15 = .ok (.iand, 1) := by decide +kernel
theorem dX6_ones_16 : decode cX6_ones 16 = .ok (.istore_n 2, 1) := by decide +kernel
theorem dX6_ones_17 : decode cX6_ones 17 = .ok (.goto (-13), 3) := by decide +kernel
theorem dX6_ones_20 : decode cX6_ones 20 = .ok (.iload_n 1, 1) := by decide +kernel
theorem dX6_ones_21 : decode cX6_ones 21 = .ok (.ireturn, 1) := by decide +kernel
theorem dX6_onRail_0 : decode cX6_onRail 0 = .ok (.iconst 0, 1) := by decide +kernel
theorem dX6_onRail_1 : decode cX6_onRail 1 = .ok (.istore_n 1, 1) := by decide +kernel
theorem dX6_onRail_2 : decode cX6_onRail 2 = .ok (.iconst 0, 1) := by decide +kernel
theorem dX6_onRail_3 : decode cX6_onRail 3 = .ok (.istore_n 2, 1) := by decide +kernel
theorem dX6_onRail_4 : decode cX6_onRail 4 = .ok (.iload_n 2, 1) := by decide +kernel
theorem dX6_onRail_5 : decode cX6_onRail 5 = .ok (.aload_n 0, 1) := by decide +kernel
theorem dX6_onRail_6 : decode cX6_onRail 6 = .ok (.getfield 7, 3) := by decide +kernel
theorem dX6_onRail_9 : decode cX6_onRail 9 = .ok (.iconst 0, 1) := by decide +kernel
theorem dX6_onRail_10 : decode cX6_onRail 10 = .ok (.iaload, 1) := by decide +kernel
theorem dX6_onRail_11 : decode cX6_onRail 11 = .ok (.if_icmp .ge 27, 3) := by decide +kernel
theorem dX6_onRail_14 : decode cX6_onRail 14 = .ok (.iload_n 1, 1) := by decide +kernel
theorem dX6_onRail_15 : decode cX6_onRail 15 = .ok (.aload_n 0, 1) := by decide +kernel
theorem dX6_onRail_16 : decode cX6_onRail 16 = .ok (.iload_n 2, 1) := by decide +kernel
theorem dX6_onRail_17 : decode cX6_onRail 17 = .ok (.invokevirtual 104, 3) := by decide +kernel
theorem dX6_onRail_20 : decode cX6_onRail 20 = .ok (.ifCond .eq 9, 3) := by decide +kernel
theorem dX6_onRail_23 : decode cX6_onRail 23 = .ok (.iconst 1, 1) := by decide +kernel
theorem dX6_onRail_24 : decode cX6_onRail 24 = .ok (.iload_n 2, 1) := by decide +kernel
theorem dX6_onRail_25 : decode cX6_onRail 25 = .ok (.ishl, 1) := by decide +kernel
theorem dX6_onRail_26 : decode cX6_onRail 26 = .ok (.goto 4, 3) := by decide +kernel
theorem dX6_onRail_29 : decode cX6_onRail 29 = .ok (.iconst 0, 1) := by decide +kernel
theorem dX6_onRail_30 : decode cX6_onRail 30 = .ok (.ior, 1) := by decide +kernel
theorem dX6_onRail_31 : decode cX6_onRail 31 = .ok (.istore_n 1, 1) := by decide +kernel
theorem dX6_onRail_32 : decode cX6_onRail 32 = .ok (.iinc 2 1, 3) := by decide +kernel
theorem dX6_onRail_35 : decode cX6_onRail 35 = .ok (.goto (-31), 3) := by decide +kernel
theorem dX6_onRail_38 : decode cX6_onRail 38 = .ok (.iload_n 1, 1) := by decide +kernel
theorem dX6_onRail_39 : decode cX6_onRail 39 = .ok (.ireturn, 1) := by decide +kernel
theorem dX6_hangs_0 : decode cX6_hangs 0 = .ok (.aload_n 0, 1) := by decide +kernel
theorem dX6_hangs_1 : decode cX6_hangs 1 = .ok (.getfield 7, 3) := by decide +kernel
theorem dX6_hangs_4 : decode cX6_hangs 4 = .ok (.iload_n 1, 1) := by decide +kernel
theorem dX6_hangs_5 : decode cX6_hangs 5 = .ok (.iconst 1, 1) := by decide +kernel
theorem dX6_hangs_6 : decode cX6_hangs 6 = .ok (.invokestatic 53, 3) := by decide +kernel
theorem dX6_hangs_9 : decode cX6_hangs 9 = .ok (.iload_n 2, 1) := by decide +kernel
theorem dX6_hangs_10 : decode cX6_hangs 10 = .ok (.iastore, 1) := by decide +kernel
theorem dX6_hangs_11 : decode cX6_hangs 11 = .ok (.aload_n 0, 1) := by decide +kernel
theorem dX6_hangs_12 : decode cX6_hangs 12 = .ok (.invokevirtual 107, 3) := by decide +kernel
theorem dX6_hangs_15 : decode cX6_hangs 15 = .ok (.return_, 1) := by decide +kernel
theorem dX6_hang_0 : decode cX6_hang 0 = .ok (.aload_n 0, 1) := by decide +kernel
theorem dX6_hang_1 : decode cX6_hang 1 = .ok (.iload_n 1, 1) := by decide +kernel
theorem dX6_hang_2 : decode cX6_hang 2 = .ok (.invokevirtual 72, 3) := by decide +kernel
theorem dX6_hang_5 : decode cX6_hang 5 = .ok (.ifCond .eq 10, 3) := by decide +kernel
theorem dX6_hang_8 : decode cX6_hang 8 = .ok (.iload_n 2, 1) := by decide +kernel
theorem dX6_hang_9 : decode cX6_hang 9 = .ok (.invokestatic 97, 3) := by decide +kernel
theorem dX6_hang_12 : decode cX6_hang 12 = .ok (.ifCond .ne 10, 3) := by decide +kernel
theorem dX6_hang_15 : decode cX6_hang 15 = .ok (.aload_n 0, 1) := by decide +kernel
theorem dX6_hang_16 : decode cX6_hang 16 = .ok (.ldc 44, 2) := by decide +kernel
theorem dX6_hang_18 : decode cX6_hang 18 = .ok (.invokevirtual 64, 3) := by decide +kernel
theorem dX6_hang_21 : decode cX6_hang 21 = .ok (.ireturn, 1) := by decide +kernel
theorem dX6_hang_22 : decode cX6_hang 22 = .ok (.aload_n 0, 1) := by decide +kernel
theorem dX6_hang_23 : decode cX6_hang 23 = .ok (.iload_n 1, 1) := by decide +kernel
theorem dX6_hang_24 : decode cX6_hang 24 = .ok (.invokevirtual 104, 3) := by decide +kernel
theorem dX6_hang_27 : decode cX6_hang 27 = .ok (.ifCond .ne 11, 3) := by decide +kernel
theorem dX6_hang_30 : decode cX6_hang 30 = .ok (.aload_n 0, 1) := by decide +kernel
theorem dX6_hang_31 : decode cX6_hang 31 = .ok (.iload_n 2, 1) := by decide +kernel
theorem dX6_hang_32 : decode cX6_hang 32 = .ok (.invokevirtual 109, 3) := by decide +kernel
theorem dX6_hang_35 : decode cX6_hang 35 = .ok (.ifCond .ne 10, 3) := by decide +kernel
theorem dX6_hang_38 : decode cX6_hang 38 = .ok (.aload_n 0, 1) := by decide +kernel
theorem dX6_hang_39 : decode cX6_hang 39 = .ok (.ldc 112, 2) := by decide +kernel
theorem dX6_hang_41 : decode cX6_hang 41 = .ok (.invokevirtual 64, 3) := by decide +kernel
theorem dX6_hang_44 : decode cX6_hang 44 = .ok (.ireturn, 1) := by decide +kernel
theorem dX6_hang_45 : decode cX6_hang 45 = .ok (.aload_n 0, 1) := by decide +kernel
theorem dX6_hang_46 : decode cX6_hang 46 = .ok (.iload_n 1, 1) := by decide +kernel
theorem dX6_hang_47 : decode cX6_hang 47 = .ok (.iload_n 2, 1) := by decide +kernel
theorem dX6_hang_48 : decode cX6_hang 48 = .ok (.invokevirtual 113, 3) := by decide +kernel
theorem dX6_hang_51 : decode cX6_hang 51 = .ok (.aload_n 0, 1) := by decide +kernel
theorem dX6_hang_52 : decode cX6_hang 52 = .ok (.invokevirtual 117, 3) := by decide +kernel
theorem dX6_hang_55 : decode cX6_hang 55 = .ok (.invokestatic 121, 3) := by decide +kernel
theorem dX6_hang_58 : decode cX6_hang 58 = .ok (.ireturn, 1) := by decide +kernel
theorem dX6_face_0 : decode cX6_face 0 = .ok (.aload_n 0, 1) := by decide +kernel
theorem dX6_face_1 : decode cX6_face 1 = .ok (.iload_n 1, 1) := by decide +kernel
theorem dX6_face_2 : decode cX6_face 2 = .ok (.invokevirtual 72, 3) := by decide +kernel
theorem dX6_face_5 : decode cX6_face 5 = .ok (.ifCond .ne 10, 3) := by decide +kernel
theorem dX6_face_8 : decode cX6_face 8 = .ok (.aload_n 0, 1) := by decide +kernel
theorem dX6_face_9 : decode cX6_face 9 = .ok (.ldc 44, 2) := by decide +kernel
theorem dX6_face_11 : decode cX6_face 11 = .ok (.invokevirtual 64, 3) := by decide +kernel
theorem dX6_face_14 : decode cX6_face 14 = .ok (.ireturn, 1) := by decide +kernel
theorem dX6_face_15 : decode cX6_face 15 = .ok (.aload_n 0, 1) := by decide +kernel
theorem dX6_face_16 : decode cX6_face 16 = .ok (.getfield 7, 3) := by decide +kernel
theorem dX6_face_19 : decode cX6_face 19 = .ok (.iload_n 1, 1) := by decide +kernel
theorem dX6_face_20 : decode cX6_face 20 = .ok (.iconst 2, 1) := by decide +kernel
theorem dX6_face_21 : decode cX6_face 21 = .ok (.invokestatic 53, 3) := by decide +kernel
theorem dX6_face_24 : decode cX6_face 24 = .ok (.iconst 1, 1) := by decide +kernel
theorem dX6_face_25 : decode cX6_face 25 = .ok (.aload_n 0, 1) := by decide +kernel
theorem dX6_face_26 : decode cX6_face 26 = .ok (.iload_n 1, 1) := by decide +kernel
theorem dX6_face_27 : decode cX6_face 27 = .ok (.iconst 2, 1) := by decide +kernel
theorem dX6_face_28 : decode cX6_face 28 = .ok (.invokevirtual 57, 3) := by decide +kernel
theorem dX6_face_31 : decode cX6_face 31 = .ok (.isub, 1) := by decide +kernel
theorem dX6_face_32 : decode cX6_face 32 = .ok (.iastore, 1) := by decide +kernel
theorem dX6_face_33 : decode cX6_face 33 = .ok (.aload_n 0, 1) := by decide +kernel
theorem dX6_face_34 : decode cX6_face 34 = .ok (.invokevirtual 107, 3) := by decide +kernel
theorem dX6_face_37 : decode cX6_face 37 = .ok (.aload_n 0, 1) := by decide +kernel
theorem dX6_face_38 : decode cX6_face 38 = .ok (.iload_n 1, 1) := by decide +kernel
theorem dX6_face_39 : decode cX6_face 39 = .ok (.iconst 2, 1) := by decide +kernel
theorem dX6_face_40 : decode cX6_face 40 = .ok (.invokevirtual 57, 3) := by decide +kernel
theorem dX6_face_43 : decode cX6_face 43 = .ok (.ireturn, 1) := by decide +kernel
theorem dX6_shift_0 : decode cX6_shift 0 = .ok (.aload_n 0, 1) := by decide +kernel
theorem dX6_shift_1 : decode cX6_shift 1 = .ok (.iload_n 1, 1) := by decide +kernel
theorem dX6_shift_2 : decode cX6_shift 2 = .ok (.invokevirtual 72, 3) := by decide +kernel
theorem dX6_shift_5 : decode cX6_shift 5 = .ok (.ifCond .ne 10, 3) := by decide +kernel
theorem dX6_shift_8 : decode cX6_shift 8 = .ok (.aload_n 0, 1) := by decide +kernel
theorem dX6_shift_9 : decode cX6_shift 9 = .ok (.ldc 44, 2) := by decide +kernel
theorem dX6_shift_11 : decode cX6_shift 11 = .ok (.invokevirtual 64, 3) := by decide +kernel
theorem dX6_shift_14 : decode cX6_shift 14 = .ok (.ireturn, 1) := by decide +kernel
theorem dX6_shift_15 : decode cX6_shift 15 = .ok (.aload_n 0, 1) := by decide +kernel
theorem dX6_shift_16 : decode cX6_shift 16 = .ok (.iload_n 1, 1) := by decide +kernel
theorem dX6_shift_17 : decode cX6_shift 17 = .ok (.invokevirtual 104, 3) := by decide +kernel
theorem dX6_shift_20 : decode cX6_shift 20 = .ok (.ifCond .eq 36, 3) := by decide +kernel
theorem dX6_shift_23 : decode cX6_shift 23 = .ok (.iload_n 2, 1) := by decide +kernel
theorem dX6_shift_24 : decode cX6_shift 24 = .ok (.i2l, 1) := by decide +kernel
theorem dX6_shift_25 : decode cX6_shift 25 = .ok (.ldc2_w 124, 3) := by decide +kernel
theorem dX6_shift_28 : decode cX6_shift 28 = .ok (.ldc2_w 126, 3) := by decide +kernel
theorem dX6_shift_31 : decode cX6_shift 31 = .ok (.invokestatic 47, 3) := by decide +kernel
theorem dX6_shift_34 : decode cX6_shift 34 = .ok (.ifCond .eq 22, 3) := by decide +kernel
theorem dX6_shift_37 : decode cX6_shift 37 = .ok (.aload_n 0, 1) := by decide +kernel
theorem dX6_shift_38 : decode cX6_shift 38 = .ok (.aload_n 0, 1) := by decide +kernel
theorem dX6_shift_39 : decode cX6_shift 39 = .ok (.iload_n 1, 1) := by decide +kernel
theorem dX6_shift_40 : decode cX6_shift 40 = .ok (.iconst 1, 1) := by decide +kernel
theorem dX6_shift_41 : decode cX6_shift 41 = .ok (.invokevirtual 57, 3) := by decide +kernel
theorem dX6_shift_44 : decode cX6_shift 44 = .ok (.iload_n 2, 1) := by decide +kernel
theorem dX6_shift_45 : decode cX6_shift 45 = .ok (.iadd, 1) := by decide +kernel
theorem dX6_shift_46 : decode cX6_shift 46 = .ok (.invokevirtual 109, 3) := by decide +kernel
theorem dX6_shift_49 : decode cX6_shift 49 = .ok (.ifCond .eq 7, 3) := by decide +kernel
theorem dX6_shift_52 : decode cX6_shift 52 = .ok (.iconst 1, 1) := by decide +kernel
theorem dX6_shift_53 : decode cX6_shift 53 = .ok (.goto 4, 3) := by decide +kernel
theorem dX6_shift_56 : decode cX6_shift 56 = .ok (.iconst 0, 1) := by decide +kernel
theorem dX6_shift_57 : decode cX6_shift 57 = .ok (.istore_n 3, 1) := by decide +kernel
theorem dX6_shift_58 : decode cX6_shift 58 = .ok (.iload_n 3, 1) := by decide +kernel
theorem dX6_shift_59 : decode cX6_shift 59 = .ok (.ifCond .ne 10, 3) := by decide +kernel
theorem dX6_shift_62 : decode cX6_shift 62 = .ok (.aload_n 0, 1) := by decide +kernel
theorem dX6_shift_63 : decode cX6_shift 63 = .ok (.ldc 112, 2) := by decide +kernel
theorem dX6_shift_65 : decode cX6_shift 65 = .ok (.invokevirtual 64, 3) := by decide +kernel
theorem dX6_shift_68 : decode cX6_shift 68 = .ok (.ireturn, 1) := by decide +kernel
theorem dX6_shift_69 : decode cX6_shift 69 = .ok (.aload_n 0, 1) := by decide +kernel
theorem dX6_shift_70 : decode cX6_shift 70 = .ok (.iload_n 1, 1) := by decide +kernel
theorem dX6_shift_71 : decode cX6_shift 71 = .ok (.aload_n 0, 1) := by decide +kernel
theorem dX6_shift_72 : decode cX6_shift 72 = .ok (.iload_n 1, 1) := by decide +kernel
theorem dX6_shift_73 : decode cX6_shift 73 = .ok (.iconst 1, 1) := by decide +kernel
theorem dX6_shift_74 : decode cX6_shift 74 = .ok (.invokevirtual 57, 3) := by decide +kernel
theorem dX6_shift_77 : decode cX6_shift 77 = .ok (.iload_n 2, 1) := by decide +kernel
theorem dX6_shift_78 : decode cX6_shift 78 = .ok (.iadd, 1) := by decide +kernel
theorem dX6_shift_79 : decode cX6_shift 79 = .ok (.invokevirtual 113, 3) := by decide +kernel
theorem dX6_shift_82 : decode cX6_shift 82 = .ok (.aload_n 0, 1) := by decide +kernel
theorem dX6_shift_83 : decode cX6_shift 83 = .ok (.iload_n 1, 1) := by decide +kernel
theorem dX6_shift_84 : decode cX6_shift 84 = .ok (.iconst 1, 1) := by decide +kernel
theorem dX6_shift_85 : decode cX6_shift 85 = .ok (.invokevirtual 57, 3) := by decide +kernel
theorem dX6_shift_88 : decode cX6_shift 88 = .ok (.ireturn, 1) := by decide +kernel
theorem dX6_isCaught_0 : decode cX6_isCaught 0 = .ok (.aload_n 0, 1) := by decide +kernel
theorem dX6_isCaught_1 : decode cX6_isCaught 1 = .ok (.iload_n 1, 1) := by decide +kernel
theorem dX6_isCaught_2 : decode cX6_isCaught 2 = .ok (.iconst 1, 1) := by decide +kernel
theorem dX6_isCaught_3 : decode cX6_isCaught 3 = .ok (.invokevirtual 57, 3) := by decide +kernel
theorem dX6_isCaught_6 : decode cX6_isCaught 6 = .ok (.aload_n 0, 1) := by decide +kernel
theorem dX6_isCaught_7 : decode cX6_isCaught 7 = .ok (.iload_n 2, 1) := by decide +kernel
theorem dX6_isCaught_8 : decode cX6_isCaught 8 = .ok (.iconst 1, 1) := by decide +kernel
theorem dX6_isCaught_9 : decode cX6_isCaught 9 = .ok (.invokevirtual 57, 3) := by decide +kernel
theorem dX6_isCaught_12 : decode cX6_isCaught 12 = .ok (.isub, 1) := by decide +kernel
theorem dX6_isCaught_13 : decode cX6_isCaught 13 = .ok (.istore_n 3, 1) := by decide +kernel
theorem dX6_isCaught_14 : decode cX6_isCaught 14 = .ok (.iload_n 3, 1) := by decide +kernel
theorem dX6_isCaught_15 : decode cX6_isCaught 15 = .ok (.ifCond .ge 8, 3) := by decide +kernel
theorem dX6_isCaught_18 : decode cX6_isCaught 18 = .ok (.iload_n 3, 1) := by decide +kernel
theorem dX6_isCaught_19 : decode cX6_isCaught 19 = .ok (.ineg, 1) := by decide +kernel
theorem dX6_isCaught_20 : decode cX6_isCaught 20 = .ok (.goto 4, 3) := by decide +kernel
theorem dX6_isCaught_23 : decode cX6_isCaught 23 = .ok (.iload_n 3, 1) := by decide +kernel
theorem dX6_isCaught_24 : decode cX6_isCaught 24 = .ok (.istore 4, 2) := by decide +kernel
theorem dX6_isCaught_26 : decode cX6_isCaught 26 = .ok (.aload_n 0, 1) := by decide +kernel
theorem dX6_isCaught_27 : decode cX6_isCaught 27 = .ok (.iload_n 1, 1) := by decide +kernel
theorem dX6_isCaught_28 : decode cX6_isCaught 28 = .ok (.iconst 2, 1) := by decide +kernel
theorem dX6_isCaught_29 : decode cX6_isCaught 29 = .ok (.invokevirtual 57, 3) := by decide +kernel
theorem dX6_isCaught_32 : decode cX6_isCaught 32 = .ok (.aload_n 0, 1) := by decide +kernel
theorem dX6_isCaught_33 : decode cX6_isCaught 33 = .ok (.iload_n 2, 1) := by decide +kernel
theorem dX6_isCaught_34 : decode cX6_isCaught 34 = .ok (.iconst 2, 1) := by decide +kernel
theorem dX6_isCaught_35 : decode cX6_isCaught 35 = .ok (.invokevirtual 57, 3) := by decide +kernel
theorem dX6_isCaught_38 : decode cX6_isCaught 38 = .ok (.if_icmp .ne 7, 3) := by decide +kernel
theorem dX6_isCaught_41 : decode cX6_isCaught 41 = .ok (.iconst 1, 1) := by decide +kernel
theorem dX6_isCaught_42 : decode cX6_isCaught 42 = .ok (.goto 4, 3) := by decide +kernel
theorem dX6_isCaught_45 : decode cX6_isCaught 45 = .ok (.iconst 0, 1) := by decide +kernel
theorem dX6_isCaught_46 : decode cX6_isCaught 46 = .ok (.istore 5, 2) := by decide +kernel
theorem dX6_isCaught_48 : decode cX6_isCaught 48 = .ok (.aload_n 0, 1) := by decide +kernel
theorem dX6_isCaught_49 : decode cX6_isCaught 49 = .ok (.iload_n 1, 1) := by decide +kernel
theorem dX6_isCaught_50 : decode cX6_isCaught 50 = .ok (.iconst 0, 1) := by decide +kernel
theorem dX6_isCaught_51 : decode cX6_isCaught 51 = .ok (.invokevirtual 57, 3) := by decide +kernel
theorem dX6_isCaught_54 : decode cX6_isCaught 54 = .ok (.tableswitch 119 1 5 #[34, 51, 53, 76, 102], 34) := by decide +kernel
theorem dX6_isCaught_88 : decode cX6_isCaught 88 = .ok (.iload 4, 2) := by decide +kernel
theorem dX6_isCaught_90 : decode cX6_isCaught 90 = .ok (.iconst 2, 1) := by decide +kernel
theorem dX6_isCaught_91 : decode cX6_isCaught 91 = .ok (.if_icmp .gt 12, 3) := by decide +kernel
theorem dX6_isCaught_94 : decode cX6_isCaught 94 = .ok (.iload 5, 2) := by decide +kernel
theorem dX6_isCaught_96 : decode cX6_isCaught 96 = .ok (.ifCond .eq 7, 3) := by decide +kernel
theorem dX6_isCaught_99 : decode cX6_isCaught 99 = .ok (.iconst 1, 1) := by decide +kernel
theorem dX6_isCaught_100 : decode cX6_isCaught 100 = .ok (.goto 4, 3) := by decide +kernel
theorem dX6_isCaught_103 : decode cX6_isCaught 103 = .ok (.iconst 0, 1) := by decide +kernel
theorem dX6_isCaught_104 : decode cX6_isCaught 104 = .ok (.ireturn, 1) := by decide +kernel
theorem dX6_isCaught_105 : decode cX6_isCaught 105 = .ok (.iconst 0, 1) := by decide +kernel
theorem dX6_isCaught_106 : decode cX6_isCaught 106 = .ok (.ireturn, 1) := by decide +kernel
theorem dX6_isCaught_107 : decode cX6_isCaught 107 = .ok (.iload 4, 2) := by decide +kernel
theorem dX6_isCaught_109 : decode cX6_isCaught 109 = .ok (.iconst 2, 1) := by decide +kernel
theorem dX6_isCaught_110 : decode cX6_isCaught 110 = .ok (.if_icmp .gt 8, 3) := by decide +kernel
theorem dX6_isCaught_113 : decode cX6_isCaught 113 = .ok (.iload 5, 2) := by decide +kernel
theorem dX6_isCaught_115 : decode cX6_isCaught 115 = .ok (.ifCond .ne 9, 3) := by decide +kernel
theorem dX6_isCaught_118 : decode cX6_isCaught 118 = .ok (.iload 4, 2) := by decide +kernel
theorem dX6_isCaught_120 : decode cX6_isCaught 120 = .ok (.iconst 1, 1) := by decide +kernel
theorem dX6_isCaught_121 : decode cX6_isCaught 121 = .ok (.if_icmp .ne 7, 3) := by decide +kernel
theorem dX6_isCaught_124 : decode cX6_isCaught 124 = .ok (.iconst 1, 1) := by decide +kernel
theorem dX6_isCaught_125 : decode cX6_isCaught 125 = .ok (.goto 4, 3) := by decide +kernel
theorem dX6_isCaught_128 : decode cX6_isCaught 128 = .ok (.iconst 0, 1) := by decide +kernel
theorem dX6_isCaught_129 : decode cX6_isCaught 129 = .ok (.ireturn, 1) := by decide +kernel
theorem dX6_isCaught_130 : decode cX6_isCaught 130 = .ok (.iload 4, 2) := by decide +kernel
theorem dX6_isCaught_132 : decode cX6_isCaught 132 = .ok (.iconst 2, 1) := by decide +kernel
theorem dX6_isCaught_133 : decode cX6_isCaught 133 = .ok (.if_icmp .gt 21, 3) := by decide +kernel
theorem dX6_isCaught_136 : decode cX6_isCaught 136 = .ok (.iload 5, 2) := by decide +kernel
theorem dX6_isCaught_138 : decode cX6_isCaught 138 = .ok (.ifCond .eq 16, 3) := by decide +kernel
theorem dX6_isCaught_141 : decode cX6_isCaught 141 = .ok (.aload_n 0, 1) := by decide +kernel
theorem dX6_isCaught_142 : decode cX6_isCaught 142 = .ok (.iload_n 1, 1) := by decide +kernel
theorem dX6_isCaught_143 : decode cX6_isCaught 143 = .ok (.iconst 3, 1) := by decide +kernel
theorem dX6_isCaught_144 : decode cX6_isCaught 144 = .ok (.invokevirtual 57, 3) := by decide +kernel
theorem dX6_isCaught_147 : decode cX6_isCaught 147 = .ok (.ifCond .le 7, 3) := by decide +kernel
theorem dX6_isCaught_150 : decode cX6_isCaught 150 = .ok (.iconst 1, 1) := by decide +kernel
theorem dX6_isCaught_151 : decode cX6_isCaught 151 = .ok (.goto 4, 3) := by decide +kernel
theorem dX6_isCaught_154 : decode cX6_isCaught 154 = .ok (.iconst 0, 1) := by decide +kernel
theorem dX6_isCaught_155 : decode cX6_isCaught 155 = .ok (.ireturn, 1) := by decide +kernel
theorem dX6_isCaught_156 : decode cX6_isCaught 156 = .ok (.iload 4, 2) := by decide +kernel
theorem dX6_isCaught_158 : decode cX6_isCaught 158 = .ok (.iconst 1, 1) := by decide +kernel
theorem dX6_isCaught_159 : decode cX6_isCaught 159 = .ok (.if_icmp .ne 12, 3) := by decide +kernel
theorem dX6_isCaught_162 : decode cX6_isCaught 162 = .ok (.iload 5, 2) := by decide +kernel
theorem dX6_isCaught_164 : decode cX6_isCaught 164 = .ok (.ifCond .ne 7, 3) := by decide +kernel
theorem dX6_isCaught_167 : decode cX6_isCaught 167 = .ok (.iconst 1, 1) := by decide +kernel
theorem dX6_isCaught_168 : decode cX6_isCaught 168 = .ok (.goto 4, 3) := by decide +kernel
theorem dX6_isCaught_171 : decode cX6_isCaught 171 = .ok (.iconst 0, 1) := by decide +kernel
theorem dX6_isCaught_172 : decode cX6_isCaught 172 = .ok (.ireturn, 1) := by decide +kernel
theorem dX6_isCaught_173 : decode cX6_isCaught 173 = .ok (.iload 4, 2) := by decide +kernel
theorem dX6_isCaught_175 : decode cX6_isCaught 175 = .ok (.iconst 1, 1) := by decide +kernel
theorem dX6_isCaught_176 : decode cX6_isCaught 176 = .ok (.if_icmp .ne 12, 3) := by decide +kernel
theorem dX6_isCaught_179 : decode cX6_isCaught 179 = .ok (.iload 5, 2) := by decide +kernel
theorem dX6_isCaught_181 : decode cX6_isCaught 181 = .ok (.ifCond .eq 7, 3) := by decide +kernel
theorem dX6_isCaught_184 : decode cX6_isCaught 184 = .ok (.iconst 1, 1) := by decide +kernel
theorem dX6_isCaught_185 : decode cX6_isCaught 185 = .ok (.goto 4, 3) := by decide +kernel
theorem dX6_isCaught_188 : decode cX6_isCaught 188 = .ok (.iconst 0, 1) := by decide +kernel
theorem dX6_isCaught_189 : decode cX6_isCaught 189 = .ok (.ireturn, 1) := by decide +kernel
theorem dX6_areTangled_0 : decode cX6_areTangled 0 = .ok (.iload_n 1, 1) := by decide +kernel
theorem dX6_areTangled_1 : decode cX6_areTangled 1 = .ok (.iload_n 2, 1) := by decide +kernel
theorem dX6_areTangled_2 : decode cX6_areTangled 2 = .ok (.if_icmp .eq 41, 3) := by decide +kernel
theorem dX6_areTangled_5 : decode cX6_areTangled 5 = .ok (.aload_n 0, 1) := by decide +kernel
theorem dX6_areTangled_6 : decode cX6_areTangled 6 = .ok (.iload_n 1, 1) := by decide +kernel
theorem dX6_areTangled_7 : decode cX6_areTangled 7 = .ok (.invokevirtual 104, 3) := by decide +kernel
theorem dX6_areTangled_10 : decode cX6_areTangled 10 = .ok (.ifCond .eq 33, 3) := by decide +kernel
theorem dX6_areTangled_13 : decode cX6_areTangled 13 = .ok (.aload_n 0, 1) := by decide +kernel
theorem dX6_areTangled_14 : decode cX6_areTangled 14 = .ok (.iload_n 2, 1) := by decide +kernel
theorem dX6_areTangled_15 : decode cX6_areTangled 15 = .ok (.invokevirtual 104, 3) := by decide +kernel
theorem dX6_areTangled_18 : decode cX6_areTangled 18 = .ok (.ifCond .eq 25, 3) := by decide +kernel
theorem dX6_areTangled_21 : decode cX6_areTangled 21 = .ok (.aload_n 0, 1) := by decide +kernel
theorem dX6_areTangled_22 : decode cX6_areTangled 22 = .ok (.iload_n 1, 1) := by decide +kernel
theorem dX6_areTangled_23 : decode cX6_areTangled 23 = .ok (.iload_n 2, 1) := by decide +kernel
theorem dX6_areTangled_24 : decode cX6_areTangled 24 = .ok (.invokevirtual 128, 3) := by decide +kernel
theorem dX6_areTangled_27 : decode cX6_areTangled 27 = .ok (.ifCond .ne 12, 3) := by decide +kernel
theorem dX6_areTangled_30 : decode cX6_areTangled 30 = .ok (.aload_n 0, 1) := by decide +kernel
theorem dX6_areTangled_31 : decode cX6_areTangled 31 = .ok (.iload_n 2, 1) := by decide +kernel
theorem dX6_areTangled_32 : decode cX6_areTangled 32 = .ok (.iload_n 1, 1) := by decide +kernel
theorem dX6_areTangled_33 : decode cX6_areTangled 33 = .ok (.invokevirtual 128, 3) := by decide +kernel
theorem dX6_areTangled_36 : decode cX6_areTangled 36 = .ok (.ifCond .eq 7, 3) := by decide +kernel
theorem dX6_areTangled_39 : decode cX6_areTangled 39 = .ok (.iconst 1, 1) := by decide +kernel
theorem dX6_areTangled_40 : decode cX6_areTangled 40 = .ok (.goto 4, 3) := by decide +kernel
theorem dX6_areTangled_43 : decode cX6_areTangled 43 = .ok (.iconst 0, 1) := by decide +kernel
theorem dX6_areTangled_44 : decode cX6_areTangled 44 = .ok (.ireturn, 1) := by decide +kernel
theorem dX6_tangledWith_0 : decode cX6_tangledWith 0 = .ok (.iconst 0, 1) := by decide +kernel
theorem dX6_tangledWith_1 : decode cX6_tangledWith 1 = .ok (.istore_n 2, 1) := by decide +kernel
theorem dX6_tangledWith_2 : decode cX6_tangledWith 2 = .ok (.iconst 0, 1) := by decide +kernel
theorem dX6_tangledWith_3 : decode cX6_tangledWith 3 = .ok (.istore_n 3, 1) := by decide +kernel
theorem dX6_tangledWith_4 : decode cX6_tangledWith 4 = .ok (.iload_n 3, 1) := by decide +kernel
theorem dX6_tangledWith_5 : decode cX6_tangledWith 5 = .ok (.aload_n 0, 1) := by decide +kernel
theorem dX6_tangledWith_6 : decode cX6_tangledWith 6 = .ok (.getfield 7, 3) := by decide +kernel
theorem dX6_tangledWith_9 : decode cX6_tangledWith 9 = .ok (.iconst 0, 1) := by decide +kernel
theorem dX6_tangledWith_10 : decode cX6_tangledWith 10 = .ok (.iaload, 1) := by decide +kernel
theorem dX6_tangledWith_11 : decode cX6_tangledWith 11 = .ok (.if_icmp .ge 28, 3) := by decide +kernel
theorem dX6_tangledWith_14 : decode cX6_tangledWith 14 = .ok (.iload_n 2, 1) := by decide +kernel
theorem dX6_tangledWith_15 : decode cX6_tangledWith 15 = .ok (.aload_n 0, 1) := by decide +kernel
theorem dX6_tangledWith_16 : decode cX6_tangledWith 16 = .ok (.iload_n 1, 1) := by decide +kernel
theorem dX6_tangledWith_17 : decode cX6_tangledWith 17 = .ok (.iload_n 3, 1) := by decide +kernel
theorem dX6_tangledWith_18 : decode cX6_tangledWith 18 = .ok (.invokevirtual 131, 3) := by decide +kernel
theorem dX6_tangledWith_21 : decode cX6_tangledWith 21 = .ok (.ifCond .eq 9, 3) := by decide +kernel
theorem dX6_tangledWith_24 : decode cX6_tangledWith 24 = .ok (.iconst 1, 1) := by decide +kernel
theorem dX6_tangledWith_25 : decode cX6_tangledWith 25 = .ok (.iload_n 3, 1) := by decide +kernel
theorem dX6_tangledWith_26 : decode cX6_tangledWith 26 = .ok (.ishl, 1) := by decide +kernel
theorem dX6_tangledWith_27 : decode cX6_tangledWith 27 = .ok (.goto 4, 3) := by decide +kernel
theorem dX6_tangledWith_30 : decode cX6_tangledWith 30 = .ok (.iconst 0, 1) := by decide +kernel
theorem dX6_tangledWith_31 : decode cX6_tangledWith 31 = .ok (.ior, 1) := by decide +kernel
theorem dX6_tangledWith_32 : decode cX6_tangledWith 32 = .ok (.istore_n 2, 1) := by decide +kernel
theorem dX6_tangledWith_33 : decode cX6_tangledWith 33 = .ok (.iinc 3 1, 3) := by decide +kernel
theorem dX6_tangledWith_36 : decode cX6_tangledWith 36 = .ok (.goto (-32), 3) := by decide +kernel
theorem dX6_tangledWith_39 : decode cX6_tangledWith 39 = .ok (.iload_n 2, 1) := by decide +kernel
theorem dX6_tangledWith_40 : decode cX6_tangledWith 40 = .ok (.ireturn, 1) := by decide +kernel
theorem dX6_heapOf_0 : decode cX6_heapOf 0 = .ok (.iconst 1, 1) := by decide +kernel
theorem dX6_heapOf_1 : decode cX6_heapOf 1 = .ok (.iload_n 1, 1) := by decide +kernel
theorem dX6_heapOf_2 : decode cX6_heapOf 2 = .ok (.ishl, 1) := by decide +kernel
theorem dX6_heapOf_3 : decode cX6_heapOf 3 = .ok (.istore_n 2, 1) := by decide +kernel
theorem dX6_heapOf_4 : decode cX6_heapOf 4 = .ok (.iconst 0, 1) := by decide +kernel
theorem dX6_heapOf_5 : decode cX6_heapOf 5 = .ok (.istore_n 3, 1) := by decide +kernel
theorem dX6_heapOf_6 : decode cX6_heapOf 6 = .ok (.iload_n 3, 1) := by decide +kernel
theorem dX6_heapOf_7 : decode cX6_heapOf 7 = .ok (.iload_n 2, 1) := by decide +kernel
theorem dX6_heapOf_8 : decode cX6_heapOf 8 = .ok (.if_icmp .eq 51, 3) := by decide +kernel
theorem dX6_heapOf_11 : decode cX6_heapOf 11 = .ok (.iload_n 2, 1) := by decide +kernel
theorem dX6_heapOf_12 : decode cX6_heapOf 12 = .ok (.istore_n 3, 1) := by decide +kernel
theorem dX6_heapOf_13 : decode cX6_heapOf 13 = .ok (.iconst 0, 1) := by decide +kernel
theorem dX6_heapOf_14 : decode cX6_heapOf 14 = .ok (.istore 4, 2) := by decide +kernel
theorem dX6_heapOf_16 : decode cX6_heapOf 16 = .ok (.iload 4, 2) := by decide +kernel
theorem dX6_heapOf_18 : decode cX6_heapOf 18 = .ok (.aload_n 0, 1) := by decide +kernel
theorem dX6_heapOf_19 : decode cX6_heapOf 19 = .ok (.getfield 7, 3) := by decide +kernel
theorem dX6_heapOf_22 : decode cX6_heapOf 22 = .ok (.iconst 0, 1) := by decide +kernel
theorem dX6_heapOf_23 : decode cX6_heapOf 23 = .ok (.iaload, 1) := by decide +kernel
theorem dX6_heapOf_24 : decode cX6_heapOf 24 = .ok (.if_icmp .ge 32, 3) := by decide +kernel
theorem dX6_heapOf_27 : decode cX6_heapOf 27 = .ok (.iload_n 2, 1) := by decide +kernel
theorem dX6_heapOf_28 : decode cX6_heapOf 28 = .ok (.iload_n 2, 1) := by decide +kernel
theorem dX6_heapOf_29 : decode cX6_heapOf 29 = .ok (.iload 4, 2) := by decide +kernel
theorem dX6_heapOf_31 : decode cX6_heapOf 31 = .ok (.ishr, 1) := by decide +kernel
theorem dX6_heapOf_32 : decode cX6_heapOf 32 = .ok (.iconst 1, 1) := by decide +kernel
theorem dX6_heapOf_33 : decode cX6_heapOf 33 = .ok (.iand, 1) := by decide +kernel
theorem dX6_heapOf_34 : decode cX6_heapOf 34 = .ok (.iconst 1, 1) := by decide +kernel
theorem dX6_heapOf_35 : decode cX6_heapOf 35 = .ok (.if_icmp .ne 12, 3) := by decide +kernel
theorem dX6_heapOf_38 : decode cX6_heapOf 38 = .ok (.aload_n 0, 1) := by decide +kernel
theorem dX6_heapOf_39 : decode cX6_heapOf 39 = .ok (.iload 4, 2) := by decide +kernel
theorem dX6_heapOf_41 : decode cX6_heapOf 41 = .ok (.invokevirtual 134, 3) := by decide +kernel
theorem dX6_heapOf_44 : decode cX6_heapOf 44 = .ok (.goto 4, 3) := by decide +kernel
theorem dX6_heapOf_47 : decode cX6_heapOf 47 = .ok (.iconst 0, 1) := by decide +kernel
theorem dX6_heapOf_48 : decode cX6_heapOf 48 = .ok (.ior, 1) := by decide +kernel
theorem dX6_heapOf_49 : decode cX6_heapOf 49 = .ok (.istore_n 2, 1) := by decide +kernel
theorem dX6_heapOf_50 : decode cX6_heapOf 50 = .ok (.iinc 4 1, 3) := by decide +kernel
theorem dX6_heapOf_53 : decode cX6_heapOf 53 = .ok (.goto (-37), 3) := by decide +kernel
theorem dX6_heapOf_56 : decode cX6_heapOf 56 = .ok (.goto (-50), 3) := by decide +kernel
theorem dX6_heapOf_59 : decode cX6_heapOf 59 = .ok (.iload_n 2, 1) := by decide +kernel
theorem dX6_heapOf_60 : decode cX6_heapOf 60 = .ok (.ireturn, 1) := by decide +kernel
theorem dX6_comesBy_0 : decode cX6_comesBy 0 = .ok (.iload_n 2, 1) := by decide +kernel
theorem dX6_comesBy_1 : decode cX6_comesBy 1 = .ok (.ifCond .ne 11, 3) := by decide +kernel
theorem dX6_comesBy_4 : decode cX6_comesBy 4 = .ok (.aload_n 0, 1) := by decide +kernel
theorem dX6_comesBy_5 : decode cX6_comesBy 5 = .ok (.iload_n 1, 1) := by decide +kernel
theorem dX6_comesBy_6 : decode cX6_comesBy 6 = .ok (.invokevirtual 137, 3) := by decide +kernel
theorem dX6_comesBy_9 : decode cX6_comesBy 9 = .ok (.goto 23, 3) := by decide +kernel
theorem dX6_comesBy_12 : decode cX6_comesBy 12 = .ok (.iload_n 2, 1) := by decide +kernel
theorem dX6_comesBy_13 : decode cX6_comesBy 13 = .ok (.iconst 1, 1) := by decide +kernel
theorem dX6_comesBy_14 : decode cX6_comesBy 14 = .ok (.if_icmp .ne 15, 3) := by decide +kernel
theorem dX6_comesBy_17 : decode cX6_comesBy 17 = .ok (.aload_n 0, 1) := by decide +kernel
theorem dX6_comesBy_18 : decode cX6_comesBy 18 = .ok (.iload_n 1, 1) := by decide +kernel
theorem dX6_comesBy_19 : decode cX6_comesBy 19 = .ok (.invokevirtual 134, 3) := by decide +kernel
theorem dX6_comesBy_22 : decode cX6_comesBy 22 = .ok (.iconst 1, 1) := by decide +kernel
theorem dX6_comesBy_23 : decode cX6_comesBy 23 = .ok (.iload_n 1, 1) := by decide +kernel
theorem dX6_comesBy_24 : decode cX6_comesBy 24 = .ok (.ishl, 1) := by decide +kernel
theorem dX6_comesBy_25 : decode cX6_comesBy 25 = .ok (.ior, 1) := by decide +kernel
theorem dX6_comesBy_26 : decode cX6_comesBy 26 = .ok (.goto 6, 3) := by decide +kernel
theorem dX6_comesBy_29 : decode cX6_comesBy 29 = .ok (.iconst 1, 1) := by decide +kernel
theorem dX6_comesBy_30 : decode cX6_comesBy 30 = .ok (.iload_n 1, 1) := by decide +kernel
theorem dX6_comesBy_31 : decode cX6_comesBy 31 = .ok (.ishl, 1) := by decide +kernel
theorem dX6_comesBy_32 : decode cX6_comesBy 32 = .ok (.ireturn, 1) := by decide +kernel
theorem dX6_mayTake_0 : decode cX6_mayTake 0 = .ok (.aload_n 0, 1) := by decide +kernel
theorem dX6_mayTake_1 : decode cX6_mayTake 1 = .ok (.aload_n 0, 1) := by decide +kernel
theorem dX6_mayTake_2 : decode cX6_mayTake 2 = .ok (.iload_n 1, 1) := by decide +kernel
theorem dX6_mayTake_3 : decode cX6_mayTake 3 = .ok (.iconst 1, 1) := by decide +kernel
theorem dX6_mayTake_4 : decode cX6_mayTake 4 = .ok (.invokevirtual 57, 3) := by decide +kernel
theorem dX6_mayTake_7 : decode cX6_mayTake 7 = .ok (.iconst 1, 1) := by decide +kernel
theorem dX6_mayTake_8 : decode cX6_mayTake 8 = .ok (.isub, 1) := by decide +kernel
theorem dX6_mayTake_9 : decode cX6_mayTake 9 = .ok (.invokevirtual 109, 3) := by decide +kernel
theorem dX6_mayTake_12 : decode cX6_mayTake 12 = .ok (.ifCond .eq 7, 3) := by decide +kernel
theorem dX6_mayTake_15 : decode cX6_mayTake 15 = .ok (.iconst 1, 1) := by decide +kernel
theorem dX6_mayTake_16 : decode cX6_mayTake 16 = .ok (.goto 4, 3) := by decide +kernel
theorem dX6_mayTake_19 : decode cX6_mayTake 19 = .ok (.iconst 0, 1) := by decide +kernel
theorem dX6_mayTake_20 : decode cX6_mayTake 20 = .ok (.aload_n 0, 1) := by decide +kernel
theorem dX6_mayTake_21 : decode cX6_mayTake 21 = .ok (.aload_n 0, 1) := by decide +kernel
theorem dX6_mayTake_22 : decode cX6_mayTake 22 = .ok (.iload_n 1, 1) := by decide +kernel
theorem dX6_mayTake_23 : decode cX6_mayTake 23 = .ok (.iconst 1, 1) := by decide +kernel
theorem dX6_mayTake_24 : decode cX6_mayTake 24 = .ok (.invokevirtual 57, 3) := by decide +kernel
theorem dX6_mayTake_27 : decode cX6_mayTake 27 = .ok (.iconst 1, 1) := by decide +kernel
theorem dX6_mayTake_28 : decode cX6_mayTake 28 = .ok (.iadd, 1) := by decide +kernel
theorem dX6_mayTake_29 : decode cX6_mayTake 29 = .ok (.invokevirtual 109, 3) := by decide +kernel
theorem dX6_mayTake_32 : decode cX6_mayTake 32 = .ok (.ifCond .eq 7, 3) := by decide +kernel
theorem dX6_mayTake_35 : decode cX6_mayTake 35 = .ok (.iconst 1, 1) := by decide +kernel
theorem dX6_mayTake_36 : decode cX6_mayTake 36 = .ok (.goto 4, 3) := by decide +kernel
theorem dX6_mayTake_39 : decode cX6_mayTake 39 = .ok (.iconst 0, 1) := by decide +kernel
theorem dX6_mayTake_40 : decode cX6_mayTake 40 = .ok (.iadd, 1) := by decide +kernel
theorem dX6_mayTake_41 : decode cX6_mayTake 41 = .ok (.istore_n 3, 1) := by decide +kernel
theorem dX6_mayTake_42 : decode cX6_mayTake 42 = .ok (.aload_n 0, 1) := by decide +kernel
theorem dX6_mayTake_43 : decode cX6_mayTake 43 = .ok (.iload_n 1, 1) := by decide +kernel
theorem dX6_mayTake_44 : decode cX6_mayTake 44 = .ok (.invokevirtual 104, 3) := by decide +kernel
theorem dX6_mayTake_47 : decode cX6_mayTake 47 = .ok (.ifCond .eq 21, 3) := by decide +kernel
theorem dX6_mayTake_50 : decode cX6_mayTake 50 = .ok (.iload_n 2, 1) := by decide +kernel
theorem dX6_mayTake_51 : decode cX6_mayTake 51 = .ok (.iconst 2, 1) := by decide +kernel
theorem dX6_mayTake_52 : decode cX6_mayTake 52 = .ok (.if_icmp .ne 12, 3) := by decide +kernel
theorem dX6_mayTake_55 : decode cX6_mayTake 55 = .ok (.iload_n 3, 1) := by decide +kernel
theorem dX6_mayTake_56 : decode cX6_mayTake 56 = .ok (.aload_n 0, 1) := by decide +kernel
theorem dX6_mayTake_57 : decode cX6_mayTake 57 = .ok (.iload_n 1, 1) := by decide +kernel
theorem dX6_mayTake_58 : decode cX6_mayTake 58 = .ok (.invokevirtual 80, 3) := by decide +kernel
theorem dX6_mayTake_61 : decode cX6_mayTake 61 = .ok (.if_icmp .lt 7, 3) := by decide +kernel
theorem dX6_mayTake_64 : decode cX6_mayTake 64 = .ok (.iconst 1, 1) := by decide +kernel
theorem dX6_mayTake_65 : decode cX6_mayTake 65 = .ok (.goto 4, 3) := by decide +kernel
theorem dX6_mayTake_68 : decode cX6_mayTake 68 = .ok (.iconst 0, 1) := by decide +kernel
theorem dX6_mayTake_69 : decode cX6_mayTake 69 = .ok (.ireturn, 1) := by decide +kernel
theorem dX6_fallers_0 : decode cX6_fallers 0 = .ok (.aload_n 0, 1) := by decide +kernel
theorem dX6_fallers_1 : decode cX6_fallers 1 = .ok (.iload_n 1, 1) := by decide +kernel
theorem dX6_fallers_2 : decode cX6_fallers 2 = .ok (.iload_n 2, 1) := by decide +kernel
theorem dX6_fallers_3 : decode cX6_fallers 3 = .ok (.invokevirtual 140, 3) := by decide +kernel
theorem dX6_fallers_6 : decode cX6_fallers 6 = .ok (.istore_n 3, 1) := by decide +kernel
theorem dX6_fallers_7 : decode cX6_fallers 7 = .ok (.iconst 0, 1) := by decide +kernel
theorem dX6_fallers_8 : decode cX6_fallers 8 = .ok (.istore 4, 2) := by decide +kernel
theorem dX6_fallers_10 : decode cX6_fallers 10 = .ok (.iconst 0, 1) := by decide +kernel
theorem dX6_fallers_11 : decode cX6_fallers 11 = .ok (.istore 5, 2) := by decide +kernel
theorem dX6_fallers_13 : decode cX6_fallers 13 = .ok (.iload 5, 2) := by decide +kernel
theorem dX6_fallers_15 : decode cX6_fallers 15 = .ok (.aload_n 0, 1) := by decide +kernel
theorem dX6_fallers_16 : decode cX6_fallers 16 = .ok (.getfield 7, 3) := by decide +kernel
theorem dX6_fallers_19 : decode cX6_fallers 19 = .ok (.iconst 0, 1) := by decide +kernel
theorem dX6_fallers_20 : decode cX6_fallers 20 = .ok (.iaload, 1) := by decide +kernel
theorem dX6_fallers_21 : decode cX6_fallers 21 = .ok (.if_icmp .ge 71, 3) := by decide +kernel
theorem dX6_fallers_24 : decode cX6_fallers 24 = .ok (.iload_n 3, 1) := by decide +kernel
theorem dX6_fallers_25 : decode cX6_fallers 25 = .ok (.iload 5, 2) := by decide +kernel
theorem dX6_fallers_27 : decode cX6_fallers 27 = .ok (.ishr, 1) := by decide +kernel
theorem dX6_fallers_28 : decode cX6_fallers 28 = .ok (.iconst 1, 1) := by decide +kernel
theorem dX6_fallers_29 : decode cX6_fallers 29 = .ok (.iand, 1) := by decide +kernel
theorem dX6_fallers_30 : decode cX6_fallers 30 = .ok (.iconst 1, 1) := by decide +kernel
theorem dX6_fallers_31 : decode cX6_fallers 31 = .ok (.if_icmp .ne 34, 3) := by decide +kernel
theorem dX6_fallers_34 : decode cX6_fallers 34 = .ok (.iload 5, 2) := by decide +kernel
theorem dX6_fallers_36 : decode cX6_fallers 36 = .ok (.iload_n 1, 1) := by decide +kernel
theorem dX6_fallers_37 : decode cX6_fallers 37 = .ok (.if_icmp .ne 8, 3) := by decide +kernel
theorem dX6_fallers_40 : decode cX6_fallers 40 = .ok (.iload_n 2, 1) := by decide +kernel
theorem dX6_fallers_41 : decode cX6_fallers 41 = .ok (.iconst 1, 1) := by decide +kernel
theorem dX6_fallers_42 : decode cX6_fallers 42 = .ok (.if_icmp .ne 23, 3) := by decide +kernel
theorem dX6_fallers_45 : decode cX6_fallers 45 = .ok (.aload_n 0, 1) := by decide +kernel
theorem dX6_fallers_46 : decode cX6_fallers 46 = .ok (.iload 5, 2) := by decide +kernel
theorem dX6_fallers_48 : decode cX6_fallers 48 = .ok (.iconst 3, 1) := by decide +kernel
theorem dX6_fallers_49 : decode cX6_fallers 49 = .ok (.invokevirtual 57, 3) := by decide +kernel
theorem dX6_fallers_52 : decode cX6_fallers 52 = .ok (.aload_n 0, 1) := by decide +kernel
theorem dX6_fallers_53 : decode cX6_fallers 53 = .ok (.iload 5, 2) := by decide +kernel
theorem dX6_fallers_55 : decode cX6_fallers 55 = .ok (.invokevirtual 77, 3) := by decide +kernel
theorem dX6_fallers_58 : decode cX6_fallers 58 = .ok (.if_icmp .le 7, 3) := by decide +kernel
theorem dX6_fallers_61 : decode cX6_fallers 61 = .ok (.iconst 1, 1) := by decide +kernel
theorem dX6_fallers_62 : decode cX6_fallers 62 = .ok (.goto 4, 3) := by decide +kernel
theorem dX6_fallers_65 : decode cX6_fallers 65 = .ok (.iconst 0, 1) := by decide +kernel
theorem dX6_fallers_66 : decode cX6_fallers 66 = .ok (.istore 6, 2) := by decide +kernel
theorem dX6_fallers_68 : decode cX6_fallers 68 = .ok (.iload 4, 2) := by decide +kernel
theorem dX6_fallers_70 : decode cX6_fallers 70 = .ok (.iload 6, 2) := by decide +kernel
theorem dX6_fallers_72 : decode cX6_fallers 72 = .ok (.ifCond .eq 10, 3) := by decide +kernel
theorem dX6_fallers_75 : decode cX6_fallers 75 = .ok (.iconst 1, 1) := by decide +kernel
theorem dX6_fallers_76 : decode cX6_fallers 76 = .ok (.iload 5, 2) := by decide +kernel
theorem dX6_fallers_78 : decode cX6_fallers 78 = .ok (.ishl, 1) := by decide +kernel
theorem dX6_fallers_79 : decode cX6_fallers 79 = .ok (.goto 4, 3) := by decide +kernel
theorem dX6_fallers_82 : decode cX6_fallers 82 = .ok (.iconst 0, 1) := by decide +kernel
theorem dX6_fallers_83 : decode cX6_fallers 83 = .ok (.ior, 1) := by decide +kernel
theorem dX6_fallers_84 : decode cX6_fallers 84 = .ok (.istore 4, 2) := by decide +kernel
theorem dX6_fallers_86 : decode cX6_fallers 86 = .ok (.iinc 5 1, 3) := by decide +kernel
theorem dX6_fallers_89 : decode cX6_fallers 89 = .ok (.goto (-76), 3) := by decide +kernel
theorem dX6_fallers_92 : decode cX6_fallers 92 = .ok (.iload 4, 2) := by decide +kernel
theorem dX6_fallers_94 : decode cX6_fallers 94 = .ok (.ireturn, 1) := by decide +kernel
theorem dX6_isManner_0 : decode cX6_isManner 0 = .ok (.iload_n 0, 1) := by decide +kernel
theorem dX6_isManner_1 : decode cX6_isManner 1 = .ok (.i2l, 1) := by decide +kernel
theorem dX6_isManner_2 : decode cX6_isManner 2 = .ok (.lconst 0, 1) := by decide +kernel
theorem dX6_isManner_3 : decode cX6_isManner 3 = .ok (.ldc2_w 143, 3) := by decide +kernel
theorem dX6_isManner_6 : decode cX6_isManner 6 = .ok (.invokestatic 47, 3) := by decide +kernel
theorem dX6_isManner_9 : decode cX6_isManner 9 = .ok (.ireturn, 1) := by decide +kernel
theorem dX6_wrongTaking_0 : decode cX6_wrongTaking 0 = .ok (.aload_n 0, 1) := by decide +kernel
theorem dX6_wrongTaking_1 : decode cX6_wrongTaking 1 = .ok (.iload_n 1, 1) := by decide +kernel
theorem dX6_wrongTaking_2 : decode cX6_wrongTaking 2 = .ok (.invokevirtual 72, 3) := by decide +kernel
theorem dX6_wrongTaking_5 : decode cX6_wrongTaking 5 = .ok (.ifCond .eq 10, 3) := by decide +kernel
theorem dX6_wrongTaking_8 : decode cX6_wrongTaking 8 = .ok (.iload_n 2, 1) := by decide +kernel
theorem dX6_wrongTaking_9 : decode cX6_wrongTaking 9 = .ok (.invokestatic 145, 3) := by decide +kernel
theorem dX6_wrongTaking_12 : decode cX6_wrongTaking 12 = .ok (.ifCond .ne 8, 3) := by decide +kernel
theorem dX6_wrongTaking_15 : decode cX6_wrongTaking 15 = .ok (.ldc 44, 2) := by decide +kernel
theorem dX6_wrongTaking_17 : decode cX6_wrongTaking 17 = .ok (.goto 18, 3) := by decide +kernel
theorem dX6_wrongTaking_20 : decode cX6_wrongTaking 20 = .ok (.aload_n 0, 1) := by decide +kernel
theorem dX6_wrongTaking_21 : decode cX6_wrongTaking 21 = .ok (.iload_n 1, 1) := by decide +kernel
theorem dX6_wrongTaking_22 : decode cX6_wrongTaking 22 = .ok (.iload_n 2, 1) := by decide +kernel
theorem dX6_wrongTaking_23 : decode cX6_wrongTaking 23 = .ok (.invokevirtual 148, 3) := by decide +kernel
theorem dX6_wrongTaking_26 : decode cX6_wrongTaking 26 = .ok (.ifCond .eq 7, 3) := by decide +kernel
theorem dX6_wrongTaking_29 : decode cX6_wrongTaking 29 = .ok (.iconst 0, 1) := by decide +kernel
theorem dX6_wrongTaking_30 : decode cX6_wrongTaking 30 = .ok (.goto 5, 3) := by decide +kernel
theorem dX6_wrongTaking_33 : decode cX6_wrongTaking 33 = .ok (.ldc 112, 2) := by decide +kernel
theorem dX6_wrongTaking_35 : decode cX6_wrongTaking 35 = .ok (.ireturn, 1) := by decide +kernel
theorem dX6_takes_0 : decode cX6_takes 0 = .ok (.aload_n 0, 1) := by decide +kernel
theorem dX6_takes_1 : decode cX6_takes 1 = .ok (.iload_n 1, 1) := by decide +kernel
theorem dX6_takes_2 : decode cX6_takes 2 = .ok (.iload_n 2, 1) := by decide +kernel
theorem dX6_takes_3 : decode cX6_takes 3 = .ok (.invokevirtual 140, 3) := by decide +kernel
theorem dX6_takes_6 : decode cX6_takes 6 = .ok (.istore_n 3, 1) := by decide +kernel
theorem dX6_takes_7 : decode cX6_takes 7 = .ok (.aload_n 0, 1) := by decide +kernel
theorem dX6_takes_8 : decode cX6_takes 8 = .ok (.iload_n 1, 1) := by decide +kernel
theorem dX6_takes_9 : decode cX6_takes 9 = .ok (.iload_n 2, 1) := by decide +kernel
theorem dX6_takes_10 : decode cX6_takes 10 = .ok (.invokevirtual 151, 3) := by decide +kernel
theorem dX6_takes_13 : decode cX6_takes 13 = .ok (.istore 4, 2) := by decide +kernel
theorem dX6_takes_15 : decode cX6_takes 15 = .ok (.iconst 0, 1) := by decide +kernel
theorem dX6_takes_16 : decode cX6_takes 16 = .ok (.istore 5, 2) := by decide +kernel
theorem dX6_takes_18 : decode cX6_takes 18 = .ok (.iload 5, 2) := by decide +kernel
theorem dX6_takes_20 : decode cX6_takes 20 = .ok (.aload_n 0, 1) := by decide +kernel
theorem dX6_takes_21 : decode cX6_takes 21 = .ok (.getfield 7, 3) := by decide +kernel
theorem dX6_takes_24 : decode cX6_takes 24 = .ok (.iconst 0, 1) := by decide +kernel
theorem dX6_takes_25 : decode cX6_takes 25 = .ok (.iaload, 1) := by decide +kernel
theorem dX6_takes_26 : decode cX6_takes 26 = .ok (.if_icmp .ge 74, 3) := by decide +kernel
theorem dX6_takes_29 : decode cX6_takes 29 = .ok (.aload_n 0, 1) := by decide +kernel
theorem dX6_takes_30 : decode cX6_takes 30 = .ok (.getfield 7, 3) := by decide +kernel
theorem dX6_takes_33 : decode cX6_takes 33 = .ok (.iload 5, 2) := by decide +kernel
theorem dX6_takes_35 : decode cX6_takes 35 = .ok (.iconst 1, 1) := by decide +kernel
theorem dX6_takes_36 : decode cX6_takes 36 = .ok (.invokestatic 53, 3) := by decide +kernel
theorem dX6_takes_39 : decode cX6_takes 39 = .ok (.iload_n 3, 1) := by decide +kernel
theorem dX6_takes_40 : decode cX6_takes 40 = .ok (.iload 5, 2) := by decide +kernel
theorem dX6_takes_42 : decode cX6_takes 42 = .ok (.ishr, 1) := by decide +kernel
theorem dX6_takes_43 : decode cX6_takes 43 = .ok (.iconst 1, 1) := by decide +kernel
theorem dX6_takes_44 : decode cX6_takes 44 = .ok (.iand, 1) := by decide +kernel
theorem dX6_takes_45 : decode cX6_takes 45 = .ok (.iconst 1, 1) := by decide +kernel
theorem dX6_takes_46 : decode cX6_takes 46 = .ok (.if_icmp .ne 7, 3) := by decide +kernel
theorem dX6_takes_49 : decode cX6_takes 49 = .ok (.iconst (-1), 1) := by decide +kernel
theorem dX6_takes_50 : decode cX6_takes 50 = .ok (.goto 10, 3) := by decide +kernel
theorem dX6_takes_53 : decode cX6_takes 53 = .ok (.aload_n 0, 1) := by decide +kernel
theorem dX6_takes_54 : decode cX6_takes 54 = .ok (.iload 5, 2) := by decide +kernel
theorem dX6_takes_56 : decode cX6_takes 56 = .ok (.iconst 1, 1) := by decide +kernel
theorem dX6_takes_57 : decode cX6_takes 57 = .ok (.invokevirtual 57, 3) := by decide +kernel
theorem dX6_takes_60 : decode cX6_takes 60 = .ok (.iastore, 1) := by decide +kernel
theorem dX6_takes_61 : decode cX6_takes 61 = .ok (.aload_n 0, 1) := by decide +kernel
theorem dX6_takes_62 : decode cX6_takes 62 = .ok (.getfield 7, 3) := by decide +kernel
theorem dX6_takes_65 : decode cX6_takes 65 = .ok (.iload 5, 2) := by decide +kernel
theorem dX6_takes_67 : decode cX6_takes 67 = .ok (.iconst 3, 1) := by decide +kernel
theorem dX6_takes_68 : decode cX6_takes 68 = .ok (.invokestatic 53, 3) := by decide +kernel
theorem dX6_takes_71 : decode cX6_takes 71 = .ok (.iload 4, 2) := by decide +kernel
theorem dX6_takes_73 : decode cX6_takes 73 = .ok (.iload 5, 2) := by decide +kernel
theorem dX6_takes_75 : decode cX6_takes 75 = .ok (.ishr, 1) := by decide +kernel
theorem dX6_takes_76 : decode cX6_takes 76 = .ok (.iconst 1, 1) := by decide +kernel
theorem dX6_takes_77 : decode cX6_takes 77 = .ok (.iand, 1) := by decide +kernel
theorem dX6_takes_78 : decode cX6_takes 78 = .ok (.iconst 1, 1) := by decide +kernel
theorem dX6_takes_79 : decode cX6_takes 79 = .ok (.if_icmp .ne 7, 3) := by decide +kernel
theorem dX6_takes_82 : decode cX6_takes 82 = .ok (.iconst 0, 1) := by decide +kernel
theorem dX6_takes_83 : decode cX6_takes 83 = .ok (.goto 10, 3) := by decide +kernel
theorem dX6_takes_86 : decode cX6_takes 86 = .ok (.aload_n 0, 1) := by decide +kernel
theorem dX6_takes_87 : decode cX6_takes 87 = .ok (.iload 5, 2) := by decide +kernel
theorem dX6_takes_89 : decode cX6_takes 89 = .ok (.iconst 3, 1) := by decide +kernel
theorem dX6_takes_90 : decode cX6_takes 90 = .ok (.invokevirtual 57, 3) := by decide +kernel
theorem dX6_takes_93 : decode cX6_takes 93 = .ok (.iastore, 1) := by decide +kernel
theorem dX6_takes_94 : decode cX6_takes 94 = .ok (.iinc 5 1, 3) := by decide +kernel
theorem dX6_takes_97 : decode cX6_takes 97 = .ok (.goto (-79), 3) := by decide +kernel
theorem dX6_takes_100 : decode cX6_takes 100 = .ok (.aload_n 0, 1) := by decide +kernel
theorem dX6_takes_101 : decode cX6_takes 101 = .ok (.invokevirtual 107, 3) := by decide +kernel
theorem dX6_takes_104 : decode cX6_takes 104 = .ok (.iload_n 3, 1) := by decide +kernel
theorem dX6_takes_105 : decode cX6_takes 105 = .ok (.ireturn, 1) := by decide +kernel
theorem dX6_take_0 : decode cX6_take 0 = .ok (.aload_n 0, 1) := by decide +kernel
theorem dX6_take_1 : decode cX6_take 1 = .ok (.iload_n 1, 1) := by decide +kernel
theorem dX6_take_2 : decode cX6_take 2 = .ok (.iload_n 2, 1) := by decide +kernel
theorem dX6_take_3 : decode cX6_take 3 = .ok (.invokevirtual 154, 3) := by decide +kernel
theorem dX6_take_6 : decode cX6_take 6 = .ok (.istore_n 3, 1) := by decide +kernel
theorem dX6_take_7 : decode cX6_take 7 = .ok (.iload_n 3, 1) := by decide +kernel
theorem dX6_take_8 : decode cX6_take 8 = .ok (.ifCond .eq 11, 3) := by decide +kernel
theorem dX6_take_11 : decode cX6_take 11 = .ok (.aload_n 0, 1) := by decide +kernel
theorem dX6_take_12 : decode cX6_take 12 = .ok (.iload_n 3, 1) := by decide +kernel
theorem dX6_take_13 : decode cX6_take 13 = .ok (.invokevirtual 64, 3) := by decide +kernel
theorem dX6_take_16 : decode cX6_take 16 = .ok (.goto 9, 3) := by decide +kernel
theorem dX6_take_19 : decode cX6_take 19 = .ok (.aload_n 0, 1) := by decide +kernel
theorem dX6_take_20 : decode cX6_take 20 = .ok (.iload_n 1, 1) := by decide +kernel
theorem dX6_take_21 : decode cX6_take 21 = .ok (.iload_n 2, 1) := by decide +kernel
theorem dX6_take_22 : decode cX6_take 22 = .ok (.invokevirtual 157, 3) := by decide +kernel
theorem dX6_take_25 : decode cX6_take 25 = .ok (.ireturn, 1) := by decide +kernel
theorem dX6_pairs_0 : decode cX6_pairs 0 = .ok (.iconst 0, 1) := by decide +kernel
theorem dX6_pairs_1 : decode cX6_pairs 1 = .ok (.istore_n 1, 1) := by decide +kernel
theorem dX6_pairs_2 : decode cX6_pairs 2 = .ok (.iconst 0, 1) := by decide +kernel
theorem dX6_pairs_3 : decode cX6_pairs 3 = .ok (.istore_n 2, 1) := by decide +kernel
theorem dX6_pairs_4 : decode cX6_pairs 4 = .ok (.iload_n 2, 1) := by decide +kernel
theorem dX6_pairs_5 : decode cX6_pairs 5 = .ok (.aload_n 0, 1) := by decide +kernel
theorem dX6_pairs_6 : decode cX6_pairs 6 = .ok (.getfield 7, 3) := by decide +kernel
theorem dX6_pairs_9 : decode cX6_pairs 9 = .ok (.iconst 0, 1) := by decide +kernel
theorem dX6_pairs_10 : decode cX6_pairs 10 = .ok (.iaload, 1) := by decide +kernel
theorem dX6_pairs_11 : decode cX6_pairs 11 = .ok (.if_icmp .ge 20, 3) := by decide +kernel
theorem dX6_pairs_14 : decode cX6_pairs 14 = .ok (.iload_n 1, 1) := by decide +kernel
theorem dX6_pairs_15 : decode cX6_pairs 15 = .ok (.aload_n 0, 1) := by decide +kernel
theorem dX6_pairs_16 : decode cX6_pairs 16 = .ok (.iload_n 2, 1) := by decide +kernel
theorem dX6_pairs_17 : decode cX6_pairs 17 = .ok (.invokevirtual 134, 3) := by decide +kernel
theorem dX6_pairs_20 : decode cX6_pairs 20 = .ok (.invokestatic 121, 3) := by decide +kernel
theorem dX6_pairs_23 : decode cX6_pairs 23 = .ok (.iadd, 1) := by decide +kernel
theorem dX6_pairs_24 : decode cX6_pairs 24 = .ok (.istore_n 1, 1) := by decide +kernel
theorem dX6_pairs_25 : decode cX6_pairs 25 = .ok (.iinc 2 1, 3) := by decide +kernel
theorem dX6_pairs_28 : decode cX6_pairs 28 = .ok (.goto (-24), 3) := by decide +kernel
theorem dX6_pairs_31 : decode cX6_pairs 31 = .ok (.iload_n 1, 1) := by decide +kernel
theorem dX6_pairs_32 : decode cX6_pairs 32 = .ok (.iconst 2, 1) := by decide +kernel
theorem dX6_pairs_33 : decode cX6_pairs 33 = .ok (.idiv, 1) := by decide +kernel
theorem dX6_pairs_34 : decode cX6_pairs 34 = .ok (.ireturn, 1) := by decide +kernel
theorem dX6_shirts_0 : decode cX6_shirts 0 = .ok (.iconst 0, 1) := by decide +kernel
theorem dX6_shirts_1 : decode cX6_shirts 1 = .ok (.istore_n 1, 1) := by decide +kernel
theorem dX6_shirts_2 : decode cX6_shirts 2 = .ok (.iconst 0, 1) := by decide +kernel
theorem dX6_shirts_3 : decode cX6_shirts 3 = .ok (.istore_n 2, 1) := by decide +kernel
theorem dX6_shirts_4 : decode cX6_shirts 4 = .ok (.iload_n 2, 1) := by decide +kernel
theorem dX6_shirts_5 : decode cX6_shirts 5 = .ok (.aload_n 0, 1) := by decide +kernel
theorem dX6_shirts_6 : decode cX6_shirts 6 = .ok (.getfield 7, 3) := by decide +kernel
theorem dX6_shirts_9 : decode cX6_shirts 9 = .ok (.iconst 0, 1) := by decide +kernel
theorem dX6_shirts_10 : decode cX6_shirts 10 = .ok (.iaload, 1) := by decide +kernel
theorem dX6_shirts_11 : decode cX6_shirts 11 = .ok (.if_icmp .ge 26, 3) := by decide +kernel
theorem dX6_shirts_14 : decode cX6_shirts 14 = .ok (.iload_n 1, 1) := by decide +kernel
theorem dX6_shirts_15 : decode cX6_shirts 15 = .ok (.aload_n 0, 1) := by decide +kernel
theorem dX6_shirts_16 : decode cX6_shirts 16 = .ok (.iload_n 2, 1) := by decide +kernel
theorem dX6_shirts_17 : decode cX6_shirts 17 = .ok (.iconst 3, 1) := by decide +kernel
theorem dX6_shirts_18 : decode cX6_shirts 18 = .ok (.invokevirtual 57, 3) := by decide +kernel
theorem dX6_shirts_21 : decode cX6_shirts 21 = .ok (.ifCond .le 7, 3) := by decide +kernel
theorem dX6_shirts_24 : decode cX6_shirts 24 = .ok (.iconst 1, 1) := by decide +kernel
theorem dX6_shirts_25 : decode cX6_shirts 25 = .ok (.goto 4, 3) := by decide +kernel
theorem dX6_shirts_28 : decode cX6_shirts 28 = .ok (.iconst 0, 1) := by decide +kernel
theorem dX6_shirts_29 : decode cX6_shirts 29 = .ok (.iadd, 1) := by decide +kernel
theorem dX6_shirts_30 : decode cX6_shirts 30 = .ok (.istore_n 1, 1) := by decide +kernel
theorem dX6_shirts_31 : decode cX6_shirts 31 = .ok (.iinc 2 1, 3) := by decide +kernel
theorem dX6_shirts_34 : decode cX6_shirts 34 = .ok (.goto (-30), 3) := by decide +kernel
theorem dX6_shirts_37 : decode cX6_shirts 37 = .ok (.iload_n 1, 1) := by decide +kernel
theorem dX6_shirts_38 : decode cX6_shirts 38 = .ok (.ireturn, 1) := by decide +kernel
theorem dX6_together_0 : decode cX6_together 0 = .ok (.iconst 0, 1) := by decide +kernel
theorem dX6_together_1 : decode cX6_together 1 = .ok (.istore_n 2, 1) := by decide +kernel
theorem dX6_together_2 : decode cX6_together 2 = .ok (.iconst 0, 1) := by decide +kernel
theorem dX6_together_3 : decode cX6_together 3 = .ok (.istore_n 3, 1) := by decide +kernel
theorem dX6_together_4 : decode cX6_together 4 = .ok (.iload_n 3, 1) := by decide +kernel
theorem dX6_together_5 : decode cX6_together 5 = .ok (.aload_n 0, 1) := by decide +kernel
theorem dX6_together_6 : decode cX6_together 6 = .ok (.getfield 7, 3) := by decide +kernel
theorem dX6_together_9 : decode cX6_together 9 = .ok (.iconst 0, 1) := by decide +kernel
theorem dX6_together_10 : decode cX6_together 10 = .ok (.iaload, 1) := by decide +kernel
theorem dX6_together_11 : decode cX6_together 11 = .ok (.if_icmp .ge 18, 3) := by decide +kernel
theorem dX6_together_14 : decode cX6_together 14 = .ok (.iload_n 2, 1) := by decide +kernel
theorem dX6_together_15 : decode cX6_together 15 = .ok (.aload_n 0, 1) := by decide +kernel
theorem dX6_together_16 : decode cX6_together 16 = .ok (.iload_n 3, 1) := by decide +kernel
theorem dX6_together_17 : decode cX6_together 17 = .ok (.iload_n 1, 1) := by decide +kernel
theorem dX6_together_18 : decode cX6_together 18 = .ok (.invokevirtual 57, 3) := by decide +kernel
theorem dX6_together_21 : decode cX6_together 21 = .ok (.iadd, 1) := by decide +kernel
theorem dX6_together_22 : decode cX6_together 22 = .ok (.istore_n 2, 1) := by decide +kernel
theorem dX6_together_23 : decode cX6_together 23 = .ok (.iinc 3 1, 3) := by decide +kernel
theorem dX6_together_26 : decode cX6_together 26 = .ok (.goto (-22), 3) := by decide +kernel
theorem dX6_together_29 : decode cX6_together 29 = .ok (.iload_n 2, 1) := by decide +kernel
theorem dX6_together_30 : decode cX6_together 30 = .ok (.ireturn, 1) := by decide +kernel
theorem dX6_now_0 : decode cX6_now 0 = .ok (.iload_n 1, 1) := by decide +kernel
theorem dX6_now_1 : decode cX6_now 1 = .ok (.tableswitch 89 0 6 #[43, 50, 55, 60, 65, 71, 78], 43) := by decide +kernel
theorem dX6_now_44 : decode cX6_now 44 = .ok (.aload_n 0, 1) := by decide +kernel
theorem dX6_now_45 : decode cX6_now 45 = .ok (.getfield 7, 3) := by decide +kernel
theorem dX6_now_48 : decode cX6_now 48 = .ok (.iconst 1, 1) := by decide +kernel
theorem dX6_now_49 : decode cX6_now 49 = .ok (.iaload, 1) := by decide +kernel
theorem dX6_now_50 : decode cX6_now 50 = .ok (.ireturn, 1) := by decide +kernel
theorem dX6_now_51 : decode cX6_now 51 = .ok (.aload_n 0, 1) := by decide +kernel
theorem dX6_now_52 : decode cX6_now 52 = .ok (.invokevirtual 117, 3) := by decide +kernel
theorem dX6_now_55 : decode cX6_now 55 = .ok (.ireturn, 1) := by decide +kernel
theorem dX6_now_56 : decode cX6_now 56 = .ok (.aload_n 0, 1) := by decide +kernel
theorem dX6_now_57 : decode cX6_now 57 = .ok (.invokevirtual 160, 3) := by decide +kernel
theorem dX6_now_60 : decode cX6_now 60 = .ok (.ireturn, 1) := by decide +kernel
theorem dX6_now_61 : decode cX6_now 61 = .ok (.aload_n 0, 1) := by decide +kernel
theorem dX6_now_62 : decode cX6_now 62 = .ok (.invokevirtual 163, 3) := by decide +kernel
theorem dX6_now_65 : decode cX6_now 65 = .ok (.ireturn, 1) := by decide +kernel
theorem dX6_now_66 : decode cX6_now 66 = .ok (.aload_n 0, 1) := by decide +kernel
theorem dX6_now_67 : decode cX6_now 67 = .ok (.iconst 3, 1) := by decide +kernel
theorem dX6_now_68 : decode cX6_now 68 = .ok (.invokevirtual 166, 3) := by decide +kernel
theorem dX6_now_71 : decode cX6_now 71 = .ok (.ireturn, 1) := by decide +kernel
theorem dX6_now_72 : decode cX6_now 72 = .ok (.aload_n 0, 1) := by decide +kernel
theorem dX6_now_73 : decode cX6_now 73 = .ok (.getfield 7, 3) := by decide +kernel
theorem dX6_now_76 : decode cX6_now 76 = .ok (.iconst 2, 1) := by decide +kernel
theorem dX6_now_77 : decode cX6_now 77 = .ok (.iaload, 1) := by decide +kernel
theorem dX6_now_78 : decode cX6_now 78 = .ok (.ireturn, 1) := by decide +kernel
theorem dX6_now_79 : decode cX6_now 79 = .ok (.bipush 24, 2) := by decide +kernel
theorem dX6_now_81 : decode cX6_now 81 = .ok (.aload_n 0, 1) := by decide +kernel
theorem dX6_now_82 : decode cX6_now 82 = .ok (.invokevirtual 117, 3) := by decide +kernel
theorem dX6_now_85 : decode cX6_now 85 = .ok (.invokestatic 121, 3) := by decide +kernel
theorem dX6_now_88 : decode cX6_now 88 = .ok (.isub, 1) := by decide +kernel
theorem dX6_now_89 : decode cX6_now 89 = .ok (.ireturn, 1) := by decide +kernel
theorem dX6_now_90 : decode cX6_now 90 = .ok (.aload_n 0, 1) := by decide +kernel
theorem dX6_now_91 : decode cX6_now 91 = .ok (.ldc 44, 2) := by decide +kernel
theorem dX6_now_93 : decode cX6_now 93 = .ok (.invokevirtual 64, 3) := by decide +kernel
theorem dX6_now_96 : decode cX6_now 96 = .ok (.ireturn, 1) := by decide +kernel
theorem dX6_tangled_0 : decode cX6_tangled 0 = .ok (.aload_n 0, 1) := by decide +kernel
theorem dX6_tangled_1 : decode cX6_tangled 1 = .ok (.iload_n 1, 1) := by decide +kernel
theorem dX6_tangled_2 : decode cX6_tangled 2 = .ok (.invokevirtual 72, 3) := by decide +kernel
theorem dX6_tangled_5 : decode cX6_tangled 5 = .ok (.ifCond .eq 11, 3) := by decide +kernel
theorem dX6_tangled_8 : decode cX6_tangled 8 = .ok (.aload_n 0, 1) := by decide +kernel
theorem dX6_tangled_9 : decode cX6_tangled 9 = .ok (.iload_n 1, 1) := by decide +kernel
theorem dX6_tangled_10 : decode cX6_tangled 10 = .ok (.invokevirtual 134, 3) := by decide +kernel
theorem dX6_tangled_13 : decode cX6_tangled 13 = .ok (.goto 9, 3) := by decide +kernel
theorem dX6_tangled_16 : decode cX6_tangled 16 = .ok (.aload_n 0, 1) := by decide +kernel
theorem dX6_tangled_17 : decode cX6_tangled 17 = .ok (.ldc 44, 2) := by decide +kernel
theorem dX6_tangled_19 : decode cX6_tangled 19 = .ok (.invokevirtual 64, 3) := by decide +kernel
theorem dX6_tangled_22 : decode cX6_tangled 22 = .ok (.ireturn, 1) := by decide +kernel
theorem dX6_catches_0 : decode cX6_catches 0 = .ok (.aload_n 0, 1) := by decide +kernel
theorem dX6_catches_1 : decode cX6_catches 1 = .ok (.iload_n 1, 1) := by decide +kernel
theorem dX6_catches_2 : decode cX6_catches 2 = .ok (.invokevirtual 72, 3) := by decide +kernel
theorem dX6_catches_5 : decode cX6_catches 5 = .ok (.ifCond .eq 16, 3) := by decide +kernel
theorem dX6_catches_8 : decode cX6_catches 8 = .ok (.aload_n 0, 1) := by decide +kernel
theorem dX6_catches_9 : decode cX6_catches 9 = .ok (.iload_n 2, 1) := by decide +kernel
theorem dX6_catches_10 : decode cX6_catches 10 = .ok (.invokevirtual 72, 3) := by decide +kernel
theorem dX6_catches_13 : decode cX6_catches 13 = .ok (.ifCond .eq 8, 3) := by decide +kernel
theorem dX6_catches_16 : decode cX6_catches 16 = .ok (.iload_n 1, 1) := by decide +kernel
theorem dX6_catches_17 : decode cX6_catches 17 = .ok (.iload_n 2, 1) := by decide +kernel
theorem dX6_catches_18 : decode cX6_catches 18 = .ok (.if_icmp .ne 10, 3) := by decide +kernel
theorem dX6_catches_21 : decode cX6_catches 21 = .ok (.aload_n 0, 1) := by decide +kernel
theorem dX6_catches_22 : decode cX6_catches 22 = .ok (.ldc 44, 2) := by decide +kernel
theorem dX6_catches_24 : decode cX6_catches 24 = .ok (.invokevirtual 64, 3) := by decide +kernel
theorem dX6_catches_27 : decode cX6_catches 27 = .ok (.ireturn, 1) := by decide +kernel
theorem dX6_catches_28 : decode cX6_catches 28 = .ok (.aload_n 0, 1) := by decide +kernel
theorem dX6_catches_29 : decode cX6_catches 29 = .ok (.iload_n 1, 1) := by decide +kernel
theorem dX6_catches_30 : decode cX6_catches 30 = .ok (.invokevirtual 104, 3) := by decide +kernel
theorem dX6_catches_33 : decode cX6_catches 33 = .ok (.ifCond .eq 24, 3) := by decide +kernel
theorem dX6_catches_36 : decode cX6_catches 36 = .ok (.aload_n 0, 1) := by decide +kernel
theorem dX6_catches_37 : decode cX6_catches 37 = .ok (.iload_n 2, 1) := by decide +kernel
theorem dX6_catches_38 : decode cX6_catches 38 = .ok (.invokevirtual 104, 3) := by decide +kernel
theorem dX6_catches_41 : decode cX6_catches 41 = .ok (.ifCond .eq 16, 3) := by decide +kernel
theorem dX6_catches_44 : decode cX6_catches 44 = .ok (.aload_n 0, 1) := by decide +kernel
theorem dX6_catches_45 : decode cX6_catches 45 = .ok (.iload_n 1, 1) := by decide +kernel
theorem dX6_catches_46 : decode cX6_catches 46 = .ok (.iload_n 2, 1) := by decide +kernel
theorem dX6_catches_47 : decode cX6_catches 47 = .ok (.invokevirtual 128, 3) := by decide +kernel
theorem dX6_catches_50 : decode cX6_catches 50 = .ok (.ifCond .eq 7, 3) := by decide +kernel
theorem dX6_catches_53 : decode cX6_catches 53 = .ok (.iconst 1, 1) := by decide +kernel
theorem dX6_catches_54 : decode cX6_catches 54 = .ok (.goto 4, 3) := by decide +kernel
theorem dX6_catches_57 : decode cX6_catches 57 = .ok (.iconst 0, 1) := by decide +kernel
theorem dX6_catches_58 : decode cX6_catches 58 = .ok (.ireturn, 1) := by decide +kernel
theorem dX6_comes_0 : decode cX6_comes 0 = .ok (.aload_n 0, 1) := by decide +kernel
theorem dX6_comes_1 : decode cX6_comes 1 = .ok (.iload_n 1, 1) := by decide +kernel
theorem dX6_comes_2 : decode cX6_comes 2 = .ok (.iload_n 2, 1) := by decide +kernel
theorem dX6_comes_3 : decode cX6_comes 3 = .ok (.invokevirtual 154, 3) := by decide +kernel
theorem dX6_comes_6 : decode cX6_comes 6 = .ok (.istore_n 3, 1) := by decide +kernel
theorem dX6_comes_7 : decode cX6_comes 7 = .ok (.iload_n 3, 1) := by decide +kernel
theorem dX6_comes_8 : decode cX6_comes 8 = .ok (.ifCond .eq 11, 3) := by decide +kernel
theorem dX6_comes_11 : decode cX6_comes 11 = .ok (.aload_n 0, 1) := by decide +kernel
theorem dX6_comes_12 : decode cX6_comes 12 = .ok (.iload_n 3, 1) := by decide +kernel
theorem dX6_comes_13 : decode cX6_comes 13 = .ok (.invokevirtual 64, 3) := by decide +kernel
theorem dX6_comes_16 : decode cX6_comes 16 = .ok (.goto 9, 3) := by decide +kernel
theorem dX6_comes_19 : decode cX6_comes 19 = .ok (.aload_n 0, 1) := by decide +kernel
theorem dX6_comes_20 : decode cX6_comes 20 = .ok (.iload_n 1, 1) := by decide +kernel
theorem dX6_comes_21 : decode cX6_comes 21 = .ok (.iload_n 2, 1) := by decide +kernel
theorem dX6_comes_22 : decode cX6_comes 22 = .ok (.invokevirtual 140, 3) := by decide +kernel
theorem dX6_comes_25 : decode cX6_comes 25 = .ok (.ireturn, 1) := by decide +kernel
theorem dX6_falls_0 : decode cX6_falls 0 = .ok (.aload_n 0, 1) := by decide +kernel
theorem dX6_falls_1 : decode cX6_falls 1 = .ok (.iload_n 1, 1) := by decide +kernel
theorem dX6_falls_2 : decode cX6_falls 2 = .ok (.iload_n 2, 1) := by decide +kernel
theorem dX6_falls_3 : decode cX6_falls 3 = .ok (.invokevirtual 154, 3) := by decide +kernel
theorem dX6_falls_6 : decode cX6_falls 6 = .ok (.istore_n 3, 1) := by decide +kernel
theorem dX6_falls_7 : decode cX6_falls 7 = .ok (.iload_n 3, 1) := by decide +kernel
theorem dX6_falls_8 : decode cX6_falls 8 = .ok (.ifCond .eq 11, 3) := by decide +kernel
theorem dX6_falls_11 : decode cX6_falls 11 = .ok (.aload_n 0, 1) := by decide +kernel
theorem dX6_falls_12 : decode cX6_falls 12 = .ok (.iload_n 3, 1) := by decide +kernel
theorem dX6_falls_13 : decode cX6_falls 13 = .ok (.invokevirtual 64, 3) := by decide +kernel
theorem dX6_falls_16 : decode cX6_falls 16 = .ok (.goto 12, 3) := by decide +kernel
theorem dX6_falls_19 : decode cX6_falls 19 = .ok (.aload_n 0, 1) := by decide +kernel
theorem dX6_falls_20 : decode cX6_falls 20 = .ok (.iload_n 1, 1) := by decide +kernel
theorem dX6_falls_21 : decode cX6_falls 21 = .ok (.iload_n 2, 1) := by decide +kernel
theorem dX6_falls_22 : decode cX6_falls 22 = .ok (.invokevirtual 151, 3) := by decide +kernel
theorem dX6_falls_25 : decode cX6_falls 25 = .ok (.invokestatic 121, 3) := by decide +kernel
theorem dX6_falls_28 : decode cX6_falls 28 = .ok (.ireturn, 1) := by decide +kernel
theorem dX6_findHeaps_0 : decode cX6_findHeaps 0 = .ok (.aload_n 0, 1) := by decide +kernel
theorem dX6_findHeaps_1 : decode cX6_findHeaps 1 = .ok (.iconst 0, 1) := by decide +kernel
theorem dX6_findHeaps_2 : decode cX6_findHeaps 2 = .ok (.putfield 169, 3) := by decide +kernel
theorem dX6_findHeaps_5 : decode cX6_findHeaps 5 = .ok (.aload_n 0, 1) := by decide +kernel
theorem dX6_findHeaps_6 : decode cX6_findHeaps 6 = .ok (.iconst 0, 1) := by decide +kernel
theorem dX6_findHeaps_7 : decode cX6_findHeaps 7 = .ok (.putfield 173, 3) := by decide +kernel
theorem dX6_findHeaps_10 : decode cX6_findHeaps 10 = .ok (.aload_n 0, 1) := by decide +kernel
theorem dX6_findHeaps_11 : decode cX6_findHeaps 11 = .ok (.invokevirtual 117, 3) := by decide +kernel
theorem dX6_findHeaps_14 : decode cX6_findHeaps 14 = .ok (.istore_n 1, 1) := by decide +kernel
theorem dX6_findHeaps_15 : decode cX6_findHeaps 15 = .ok (.iconst 0, 1) := by decide +kernel
theorem dX6_findHeaps_16 : decode cX6_findHeaps 16 = .ok (.istore_n 2, 1) := by decide +kernel
theorem dX6_findHeaps_17 : decode cX6_findHeaps 17 = .ok (.iload_n 2, 1) := by decide +kernel
theorem dX6_findHeaps_18 : decode cX6_findHeaps 18 = .ok (.aload_n 0, 1) := by decide +kernel
theorem dX6_findHeaps_19 : decode cX6_findHeaps 19 = .ok (.getfield 7, 3) := by decide +kernel
theorem dX6_findHeaps_22 : decode cX6_findHeaps 22 = .ok (.iconst 0, 1) := by decide +kernel
theorem dX6_findHeaps_23 : decode cX6_findHeaps 23 = .ok (.iaload, 1) := by decide +kernel
theorem dX6_findHeaps_24 : decode cX6_findHeaps 24 = .ok (.if_icmp .ge 66, 3) := by decide +kernel
theorem dX6_findHeaps_27 : decode cX6_findHeaps 27 = .ok (.iload_n 1, 1) := by decide +kernel
theorem dX6_findHeaps_28 : decode cX6_findHeaps 28 = .ok (.iload_n 2, 1) := by decide +kernel
theorem dX6_findHeaps_29 : decode cX6_findHeaps 29 = .ok (.ishr, 1) := by decide +kernel
theorem dX6_findHeaps_30 : decode cX6_findHeaps 30 = .ok (.iconst 1, 1) := by decide +kernel
theorem dX6_findHeaps_31 : decode cX6_findHeaps 31 = .ok (.iand, 1) := by decide +kernel
theorem dX6_findHeaps_32 : decode cX6_findHeaps 32 = .ok (.iconst 1, 1) := by decide +kernel
theorem dX6_findHeaps_33 : decode cX6_findHeaps 33 = .ok (.if_icmp .ne 51, 3) := by decide +kernel
theorem dX6_findHeaps_36 : decode cX6_findHeaps 36 = .ok (.aload_n 0, 1) := by decide +kernel
theorem dX6_findHeaps_37 : decode cX6_findHeaps 37 = .ok (.iload_n 2, 1) := by decide +kernel
theorem dX6_findHeaps_38 : decode cX6_findHeaps 38 = .ok (.invokevirtual 137, 3) := by decide +kernel
theorem dX6_findHeaps_41 : decode cX6_findHeaps 41 = .ok (.istore_n 3, 1) := by decide +kernel
theorem dX6_findHeaps_42 : decode cX6_findHeaps 42 = .ok (.iload_n 1, 1) := by decide +kernel
theorem dX6_findHeaps_43 : decode cX6_findHeaps 43 = .ok (.iload_n 3, 1) := by decide +kernel
theorem dX6_findHeaps_44 : decode cX6_findHeaps 44 = .ok (.iconst (-1), 1) := by decide +kernel
theorem dX6_findHeaps_45 : decode cX6_findHeaps 45 = .ok (.ixor, 1) := by decide +kernel
theorem dX6_findHeaps_46 : decode cX6_findHeaps 46 = .ok (.iand, 1) := by decide +kernel
theorem dX6_findHeaps_47 : decode cX6_findHeaps 47 = .ok (.istore_n 1, 1) := by decide +kernel
theorem dX6_findHeaps_48 : decode cX6_findHeaps 48 = .ok (.aload_n 0, 1) := by decide +kernel
theorem dX6_findHeaps_49 : decode cX6_findHeaps 49 = .ok (.dup, 1) := by decide +kernel
theorem dX6_findHeaps_50 : decode cX6_findHeaps 50 = .ok (.getfield 169, 3) := by decide +kernel
theorem dX6_findHeaps_53 : decode cX6_findHeaps 53 = .ok (.iconst 1, 1) := by decide +kernel
theorem dX6_findHeaps_54 : decode cX6_findHeaps 54 = .ok (.iadd, 1) := by decide +kernel
theorem dX6_findHeaps_55 : decode cX6_findHeaps 55 = .ok (.putfield 169, 3) := by decide +kernel
theorem dX6_findHeaps_58 : decode cX6_findHeaps 58 = .ok (.aload_n 0, 1) := by decide +kernel
theorem dX6_findHeaps_59 : decode cX6_findHeaps 59 = .ok (.iload_n 3, 1) := by decide +kernel
theorem dX6_findHeaps_60 : decode cX6_findHeaps 60 = .ok (.invokestatic 121, 3) := by decide +kernel
theorem dX6_findHeaps_63 : decode cX6_findHeaps 63 = .ok (.aload_n 0, 1) := by decide +kernel
theorem dX6_findHeaps_64 : decode cX6_findHeaps 64 = .ok (.getfield 173, 3) := by decide +kernel
theorem dX6_findHeaps_67 : decode cX6_findHeaps 67 = .ok (.if_icmp .le 10, 3) := by decide +kernel
theorem dX6_findHeaps_70 : decode cX6_findHeaps 70 = .ok (.iload_n 3, 1) := by decide +kernel
theorem dX6_findHeaps_71 : decode cX6_findHeaps 71 = .ok (.invokestatic 121, 3) := by decide +kernel
theorem dX6_findHeaps_74 : decode cX6_findHeaps 74 = .ok (.goto 7, 3) := by decide +kernel
theorem dX6_findHeaps_77 : decode cX6_findHeaps 77 = .ok (.aload_n 0, 1) := by decide +kernel
theorem dX6_findHeaps_78 : decode cX6_findHeaps 78 = .ok (.getfield 173, 3) := by decide +kernel
theorem dX6_findHeaps_81 : decode cX6_findHeaps 81 = .ok (.putfield 173, 3) := by decide +kernel
theorem dX6_findHeaps_84 : decode cX6_findHeaps 84 = .ok (.iinc 2 1, 3) := by decide +kernel
theorem dX6_findHeaps_87 : decode cX6_findHeaps 87 = .ok (.goto (-70), 3) := by decide +kernel
theorem dX6_findHeaps_90 : decode cX6_findHeaps 90 = .ok (.return_, 1) := by decide +kernel
theorem dX6_heaps_0 : decode cX6_heaps 0 = .ok (.aload_n 0, 1) := by decide +kernel
theorem dX6_heaps_1 : decode cX6_heaps 1 = .ok (.invokevirtual 176, 3) := by decide +kernel
theorem dX6_heaps_4 : decode cX6_heaps 4 = .ok (.aload_n 0, 1) := by decide +kernel
theorem dX6_heaps_5 : decode cX6_heaps 5 = .ok (.getfield 169, 3) := by decide +kernel
theorem dX6_heaps_8 : decode cX6_heaps 8 = .ok (.ireturn, 1) := by decide +kernel
theorem dX6_greatest_0 : decode cX6_greatest 0 = .ok (.aload_n 0, 1) := by decide +kernel
theorem dX6_greatest_1 : decode cX6_greatest 1 = .ok (.invokevirtual 176, 3) := by decide +kernel
theorem dX6_greatest_4 : decode cX6_greatest 4 = .ok (.aload_n 0, 1) := by decide +kernel
theorem dX6_greatest_5 : decode cX6_greatest 5 = .ok (.getfield 173, 3) := by decide +kernel
theorem dX6_greatest_8 : decode cX6_greatest 8 = .ok (.ifCond .ne 12, 3) := by decide +kernel
theorem dX6_greatest_11 : decode cX6_greatest 11 = .ok (.aload_n 0, 1) := by decide +kernel
theorem dX6_greatest_12 : decode cX6_greatest 12 = .ok (.ldc 103, 2) := by decide +kernel
theorem dX6_greatest_14 : decode cX6_greatest 14 = .ok (.invokevirtual 64, 3) := by decide +kernel
theorem dX6_greatest_17 : decode cX6_greatest 17 = .ok (.goto 7, 3) := by decide +kernel
theorem dX6_greatest_20 : decode cX6_greatest 20 = .ok (.aload_n 0, 1) := by decide +kernel
theorem dX6_greatest_21 : decode cX6_greatest 21 = .ok (.getfield 173, 3) := by decide +kernel
theorem dX6_greatest_24 : decode cX6_greatest 24 = .ok (.ireturn, 1) := by decide +kernel
theorem dX6_manner_0 : decode cX6_manner 0 = .ok (.aload_n 0, 1) := by decide +kernel
theorem dX6_manner_1 : decode cX6_manner 1 = .ok (.iload_n 1, 1) := by decide +kernel
theorem dX6_manner_2 : decode cX6_manner 2 = .ok (.invokevirtual 72, 3) := by decide +kernel
theorem dX6_manner_5 : decode cX6_manner 5 = .ok (.ifCond .ne 10, 3) := by decide +kernel
theorem dX6_manner_8 : decode cX6_manner 8 = .ok (.aload_n 0, 1) := by decide +kernel
theorem dX6_manner_9 : decode cX6_manner 9 = .ok (.ldc 44, 2) := by decide +kernel
theorem dX6_manner_11 : decode cX6_manner 11 = .ok (.invokevirtual 64, 3) := by decide +kernel
theorem dX6_manner_14 : decode cX6_manner 14 = .ok (.ireturn, 1) := by decide +kernel
theorem dX6_manner_15 : decode cX6_manner 15 = .ok (.aload_n 0, 1) := by decide +kernel
theorem dX6_manner_16 : decode cX6_manner 16 = .ok (.iload_n 1, 1) := by decide +kernel
theorem dX6_manner_17 : decode cX6_manner 17 = .ok (.invokevirtual 104, 3) := by decide +kernel
theorem dX6_manner_20 : decode cX6_manner 20 = .ok (.ifCond .ne 10, 3) := by decide +kernel
theorem dX6_manner_23 : decode cX6_manner 23 = .ok (.aload_n 0, 1) := by decide +kernel
theorem dX6_manner_24 : decode cX6_manner 24 = .ok (.ldc 112, 2) := by decide +kernel
theorem dX6_manner_26 : decode cX6_manner 26 = .ok (.invokevirtual 64, 3) := by decide +kernel
theorem dX6_manner_29 : decode cX6_manner 29 = .ok (.ireturn, 1) := by decide +kernel
theorem dX6_manner_30 : decode cX6_manner 30 = .ok (.iconst 0, 1) := by decide +kernel
theorem dX6_manner_31 : decode cX6_manner 31 = .ok (.istore_n 2, 1) := by decide +kernel
theorem dX6_manner_32 : decode cX6_manner 32 = .ok (.sipush 9999, 3) := by decide +kernel
theorem dX6_manner_35 : decode cX6_manner 35 = .ok (.istore_n 3, 1) := by decide +kernel
theorem dX6_manner_36 : decode cX6_manner 36 = .ok (.iconst 0, 1) := by decide +kernel
theorem dX6_manner_37 : decode cX6_manner 37 = .ok (.istore 4, 2) := by decide +kernel
theorem dX6_manner_39 : decode cX6_manner 39 = .ok (.iload 4, 2) := by decide +kernel
theorem dX6_manner_41 : decode cX6_manner 41 = .ok (.iconst 2, 1) := by decide +kernel
theorem dX6_manner_42 : decode cX6_manner 42 = .ok (.if_icmp .gt 77, 3) := by decide +kernel
theorem dX6_manner_45 : decode cX6_manner 45 = .ok (.aload_n 0, 1) := by decide +kernel
theorem dX6_manner_46 : decode cX6_manner 46 = .ok (.iload_n 1, 1) := by decide +kernel
theorem dX6_manner_47 : decode cX6_manner 47 = .ok (.iload 4, 2) := by decide +kernel
theorem dX6_manner_49 : decode cX6_manner 49 = .ok (.invokevirtual 148, 3) := by decide +kernel
theorem dX6_manner_52 : decode cX6_manner 52 = .ok (.ifCond .eq 30, 3) := by decide +kernel
theorem dX6_manner_55 : decode cX6_manner 55 = .ok (.bipush 20, 2) := by decide +kernel
theorem dX6_manner_57 : decode cX6_manner 57 = .ok (.aload_n 0, 1) := by decide +kernel
theorem dX6_manner_58 : decode cX6_manner 58 = .ok (.iload_n 1, 1) := by decide +kernel
theorem dX6_manner_59 : decode cX6_manner 59 = .ok (.iload 4, 2) := by decide +kernel
theorem dX6_manner_61 : decode cX6_manner 61 = .ok (.invokevirtual 151, 3) := by decide +kernel
theorem dX6_manner_64 : decode cX6_manner 64 = .ok (.invokestatic 121, 3) := by decide +kernel
theorem dX6_manner_67 : decode cX6_manner 67 = .ok (.imul, 1) := by decide +kernel
theorem dX6_manner_68 : decode cX6_manner 68 = .ok (.aload_n 0, 1) := by decide +kernel
theorem dX6_manner_69 : decode cX6_manner 69 = .ok (.iload_n 1, 1) := by decide +kernel
theorem dX6_manner_70 : decode cX6_manner 70 = .ok (.iload 4, 2) := by decide +kernel
theorem dX6_manner_72 : decode cX6_manner 72 = .ok (.invokevirtual 140, 3) := by decide +kernel
theorem dX6_manner_75 : decode cX6_manner 75 = .ok (.invokestatic 121, 3) := by decide +kernel
theorem dX6_manner_78 : decode cX6_manner 78 = .ok (.iadd, 1) := by decide +kernel
theorem dX6_manner_79 : decode cX6_manner 79 = .ok (.goto 6, 3) := by decide +kernel
theorem dX6_manner_82 : decode cX6_manner 82 = .ok (.sipush 9999, 3) := by decide +kernel
theorem dX6_manner_85 : decode cX6_manner 85 = .ok (.istore 5, 2) := by decide +kernel
theorem dX6_manner_87 : decode cX6_manner 87 = .ok (.iload 5, 2) := by decide +kernel
theorem dX6_manner_89 : decode cX6_manner 89 = .ok (.iload_n 3, 1) := by decide +kernel
theorem dX6_manner_90 : decode cX6_manner 90 = .ok (.if_icmp .ge 8, 3) := by decide +kernel
theorem dX6_manner_93 : decode cX6_manner 93 = .ok (.iload 4, 2) := by decide +kernel
theorem dX6_manner_95 : decode cX6_manner 95 = .ok (.goto 4, 3) := by decide +kernel
theorem dX6_manner_98 : decode cX6_manner 98 = .ok (.iload_n 2, 1) := by decide +kernel
theorem dX6_manner_99 : decode cX6_manner 99 = .ok (.istore_n 2, 1) := by decide +kernel
theorem dX6_manner_100 : decode cX6_manner 100 = .ok (.iload 5, 2) := by decide +kernel
theorem dX6_manner_102 : decode cX6_manner 102 = .ok (.iload_n 3, 1) := by decide +kernel
theorem dX6_manner_103 : decode cX6_manner 103 = .ok (.if_icmp .ge 8, 3) := by decide +kernel
theorem dX6_manner_106 : decode cX6_manner 106 = .ok (.iload 5, 2) := by decide +kernel
theorem dX6_manner_108 : decode cX6_manner 108 = .ok (.goto 4, 3) := by decide +kernel
theorem dX6_manner_111 : decode cX6_manner 111 = .ok (.iload_n 3, 1) := by decide +kernel
theorem dX6_manner_112 : decode cX6_manner 112 = .ok (.istore_n 3, 1) := by decide +kernel
theorem dX6_manner_113 : decode cX6_manner 113 = .ok (.iinc 4 1, 3) := by decide +kernel
theorem dX6_manner_116 : decode cX6_manner 116 = .ok (.goto (-77), 3) := by decide +kernel
theorem dX6_manner_119 : decode cX6_manner 119 = .ok (.iload_n 2, 1) := by decide +kernel
theorem dX6_manner_120 : decode cX6_manner 120 = .ok (.ireturn, 1) := by decide +kernel
theorem dX6_first_0 : decode cX6_first 0 = .ok (.iconst (-1), 1) := by decide +kernel
theorem dX6_first_1 : decode cX6_first 1 = .ok (.istore_n 1, 1) := by decide +kernel
theorem dX6_first_2 : decode cX6_first 2 = .ok (.iconst 0, 1) := by decide +kernel
theorem dX6_first_3 : decode cX6_first 3 = .ok (.istore_n 2, 1) := by decide +kernel
theorem dX6_first_4 : decode cX6_first 4 = .ok (.iconst 0, 1) := by decide +kernel
theorem dX6_first_5 : decode cX6_first 5 = .ok (.istore_n 3, 1) := by decide +kernel
theorem dX6_first_6 : decode cX6_first 6 = .ok (.iload_n 3, 1) := by decide +kernel
theorem dX6_first_7 : decode cX6_first 7 = .ok (.aload_n 0, 1) := by decide +kernel
theorem dX6_first_8 : decode cX6_first 8 = .ok (.getfield 7, 3) := by decide +kernel
theorem dX6_first_11 : decode cX6_first 11 = .ok (.iconst 0, 1) := by decide +kernel
theorem dX6_first_12 : decode cX6_first 12 = .ok (.iaload, 1) := by decide +kernel
theorem dX6_first_13 : decode cX6_first 13 = .ok (.if_icmp .ge 56, 3) := by decide +kernel
theorem dX6_first_16 : decode cX6_first 16 = .ok (.aload_n 0, 1) := by decide +kernel
theorem dX6_first_17 : decode cX6_first 17 = .ok (.iload_n 3, 1) := by decide +kernel
theorem dX6_first_18 : decode cX6_first 18 = .ok (.invokevirtual 104, 3) := by decide +kernel
theorem dX6_first_21 : decode cX6_first 21 = .ok (.ifCond .eq 42, 3) := by decide +kernel
theorem dX6_first_24 : decode cX6_first 24 = .ok (.aload_n 0, 1) := by decide +kernel
theorem dX6_first_25 : decode cX6_first 25 = .ok (.iload_n 3, 1) := by decide +kernel
theorem dX6_first_26 : decode cX6_first 26 = .ok (.iconst 0, 1) := by decide +kernel
theorem dX6_first_27 : decode cX6_first 27 = .ok (.invokevirtual 151, 3) := by decide +kernel
theorem dX6_first_30 : decode cX6_first 30 = .ok (.invokestatic 121, 3) := by decide +kernel
theorem dX6_first_33 : decode cX6_first 33 = .ok (.istore 4, 2) := by decide +kernel
theorem dX6_first_35 : decode cX6_first 35 = .ok (.iload_n 1, 1) := by decide +kernel
theorem dX6_first_36 : decode cX6_first 36 = .ok (.ifCond .lt 9, 3) := by decide +kernel
theorem dX6_first_39 : decode cX6_first 39 = .ok (.iload 4, 2) := by decide +kernel
theorem dX6_first_41 : decode cX6_first 41 = .ok (.iload_n 2, 1) := by decide +kernel
theorem dX6_first_42 : decode cX6_first 42 = .ok (.if_icmp .ge 7, 3) := by decide +kernel
theorem dX6_first_45 : decode cX6_first 45 = .ok (.iload_n 3, 1) := by decide +kernel
theorem dX6_first_46 : decode cX6_first 46 = .ok (.goto 4, 3) := by decide +kernel
theorem dX6_first_49 : decode cX6_first 49 = .ok (.iload_n 1, 1) := by decide +kernel
theorem dX6_first_50 : decode cX6_first 50 = .ok (.istore_n 1, 1) := by decide +kernel
theorem dX6_first_51 : decode cX6_first 51 = .ok (.iload_n 1, 1) := by decide +kernel
theorem dX6_first_52 : decode cX6_first 52 = .ok (.iload_n 3, 1) := by decide +kernel
theorem dX6_first_53 : decode cX6_first 53 = .ok (.if_icmp .ne 8, 3) := by decide +kernel
theorem dX6_first_56 : decode cX6_first 56 = .ok (.iload 4, 2) := by decide +kernel
theorem dX6_first_58 : decode cX6_first 58 = .ok (.goto 4, 3) := by decide +kernel
theorem dX6_first_61 : decode cX6_first 61 = .ok (.iload_n 2, 1) := by decide +kernel
theorem dX6_first_62 : decode cX6_first 62 = .ok (.istore_n 2, 1) := by decide +kernel
theorem dX6_first_63 : decode cX6_first 63 = .ok (.iinc 3 1, 3) := by decide +kernel
theorem dX6_first_66 : decode cX6_first 66 = .ok (.goto (-60), 3) := by decide +kernel
theorem dX6_first_69 : decode cX6_first 69 = .ok (.iload_n 1, 1) := by decide +kernel
theorem dX6_first_70 : decode cX6_first 70 = .ok (.ifCond .ge 12, 3) := by decide +kernel
theorem dX6_first_73 : decode cX6_first 73 = .ok (.aload_n 0, 1) := by decide +kernel
theorem dX6_first_74 : decode cX6_first 74 = .ok (.ldc 103, 2) := by decide +kernel
theorem dX6_first_76 : decode cX6_first 76 = .ok (.invokevirtual 64, 3) := by decide +kernel
theorem dX6_first_79 : decode cX6_first 79 = .ok (.goto 4, 3) := by decide +kernel
theorem dX6_first_82 : decode cX6_first 82 = .ok (.iload_n 1, 1) := by decide +kernel
theorem dX6_first_83 : decode cX6_first 83 = .ok (.ireturn, 1) := by decide +kernel
theorem dX6_spot_0 : decode cX6_spot 0 = .ok (.aload_n 0, 1) := by decide +kernel
theorem dX6_spot_1 : decode cX6_spot 1 = .ok (.iload_n 1, 1) := by decide +kernel
theorem dX6_spot_2 : decode cX6_spot 2 = .ok (.invokevirtual 72, 3) := by decide +kernel
theorem dX6_spot_5 : decode cX6_spot 5 = .ok (.ifCond .ne 10, 3) := by decide +kernel
theorem dX6_spot_8 : decode cX6_spot 8 = .ok (.aload_n 0, 1) := by decide +kernel
theorem dX6_spot_9 : decode cX6_spot 9 = .ok (.ldc 44, 2) := by decide +kernel
theorem dX6_spot_11 : decode cX6_spot 11 = .ok (.invokevirtual 64, 3) := by decide +kernel
theorem dX6_spot_14 : decode cX6_spot 14 = .ok (.ireturn, 1) := by decide +kernel
theorem dX6_spot_15 : decode cX6_spot 15 = .ok (.aload_n 0, 1) := by decide +kernel
theorem dX6_spot_16 : decode cX6_spot 16 = .ok (.iload_n 1, 1) := by decide +kernel
theorem dX6_spot_17 : decode cX6_spot 17 = .ok (.invokevirtual 104, 3) := by decide +kernel
theorem dX6_spot_20 : decode cX6_spot 20 = .ok (.ifCond .ne 10, 3) := by decide +kernel
theorem dX6_spot_23 : decode cX6_spot 23 = .ok (.aload_n 0, 1) := by decide +kernel
theorem dX6_spot_24 : decode cX6_spot 24 = .ok (.ldc 112, 2) := by decide +kernel
theorem dX6_spot_26 : decode cX6_spot 26 = .ok (.invokevirtual 64, 3) := by decide +kernel
theorem dX6_spot_29 : decode cX6_spot 29 = .ok (.ireturn, 1) := by decide +kernel
theorem dX6_spot_30 : decode cX6_spot 30 = .ok (.aload_n 0, 1) := by decide +kernel
theorem dX6_spot_31 : decode cX6_spot 31 = .ok (.iload_n 1, 1) := by decide +kernel
theorem dX6_spot_32 : decode cX6_spot 32 = .ok (.iconst 1, 1) := by decide +kernel
theorem dX6_spot_33 : decode cX6_spot 33 = .ok (.invokevirtual 57, 3) := by decide +kernel
theorem dX6_spot_36 : decode cX6_spot 36 = .ok (.istore_n 2, 1) := by decide +kernel
theorem dX6_spot_37 : decode cX6_spot 37 = .ok (.iconst (-1), 1) := by decide +kernel
theorem dX6_spot_38 : decode cX6_spot 38 = .ok (.istore_n 3, 1) := by decide +kernel
theorem dX6_spot_39 : decode cX6_spot 39 = .ok (.iconst 0, 1) := by decide +kernel
theorem dX6_spot_40 : decode cX6_spot 40 = .ok (.istore 4, 2) := by decide +kernel
theorem dX6_spot_42 : decode cX6_spot 42 = .ok (.iconst 0, 1) := by decide +kernel
theorem dX6_spot_43 : decode cX6_spot 43 = .ok (.istore 5, 2) := by decide +kernel
theorem dX6_spot_45 : decode cX6_spot 45 = .ok (.iload 5, 2) := by decide +kernel
theorem dX6_spot_47 : decode cX6_spot 47 = .ok (.bipush 24, 2) := by decide +kernel
theorem dX6_spot_49 : decode cX6_spot 49 = .ok (.if_icmp .ge 119, 3) := by decide +kernel
theorem dX6_spot_52 : decode cX6_spot 52 = .ok (.iload 5, 2) := by decide +kernel
theorem dX6_spot_54 : decode cX6_spot 54 = .ok (.iload_n 2, 1) := by decide +kernel
theorem dX6_spot_55 : decode cX6_spot 55 = .ok (.if_icmp .eq 12, 3) := by decide +kernel
theorem dX6_spot_58 : decode cX6_spot 58 = .ok (.aload_n 0, 1) := by decide +kernel
theorem dX6_spot_59 : decode cX6_spot 59 = .ok (.iload 5, 2) := by decide +kernel
theorem dX6_spot_61 : decode cX6_spot 61 = .ok (.invokevirtual 109, 3) := by decide +kernel
theorem dX6_spot_64 : decode cX6_spot 64 = .ok (.ifCond .eq 98, 3) := by decide +kernel
theorem dX6_spot_67 : decode cX6_spot 67 = .ok (.aload_n 0, 1) := by decide +kernel
theorem dX6_spot_68 : decode cX6_spot 68 = .ok (.getfield 7, 3) := by decide +kernel
theorem dX6_spot_71 : decode cX6_spot 71 = .ok (.iload_n 1, 1) := by decide +kernel
theorem dX6_spot_72 : decode cX6_spot 72 = .ok (.iconst 1, 1) := by decide +kernel
theorem dX6_spot_73 : decode cX6_spot 73 = .ok (.invokestatic 53, 3) := by decide +kernel
theorem dX6_spot_76 : decode cX6_spot 76 = .ok (.iload 5, 2) := by decide +kernel
theorem dX6_spot_78 : decode cX6_spot 78 = .ok (.iastore, 1) := by decide +kernel
theorem dX6_spot_79 : decode cX6_spot 79 = .ok (.aload_n 0, 1) := by decide +kernel
theorem dX6_spot_80 : decode cX6_spot 80 = .ok (.iload_n 1, 1) := by decide +kernel
theorem dX6_spot_81 : decode cX6_spot 81 = .ok (.invokevirtual 134, 3) := by decide +kernel
theorem dX6_spot_84 : decode cX6_spot 84 = .ok (.ifCond .ne 7, 3) := by decide +kernel
theorem dX6_spot_87 : decode cX6_spot 87 = .ok (.iconst 1, 1) := by decide +kernel
theorem dX6_spot_88 : decode cX6_spot 88 = .ok (.goto 4, 3) := by decide +kernel
theorem dX6_spot_91 : decode cX6_spot 91 = .ok (.iconst 0, 1) := by decide +kernel
theorem dX6_spot_92 : decode cX6_spot 92 = .ok (.istore 6, 2) := by decide +kernel
theorem dX6_spot_94 : decode cX6_spot 94 = .ok (.aload_n 0, 1) := by decide +kernel
theorem dX6_spot_95 : decode cX6_spot 95 = .ok (.getfield 7, 3) := by decide +kernel
theorem dX6_spot_98 : decode cX6_spot 98 = .ok (.iload_n 1, 1) := by decide +kernel
theorem dX6_spot_99 : decode cX6_spot 99 = .ok (.iconst 1, 1) := by decide +kernel
theorem dX6_spot_100 : decode cX6_spot 100 = .ok (.invokestatic 53, 3) := by decide +kernel
theorem dX6_spot_103 : decode cX6_spot 103 = .ok (.iload_n 2, 1) := by decide +kernel
theorem dX6_spot_104 : decode cX6_spot 104 = .ok (.iastore, 1) := by decide +kernel
theorem dX6_spot_105 : decode cX6_spot 105 = .ok (.iload 5, 2) := by decide +kernel
theorem dX6_spot_107 : decode cX6_spot 107 = .ok (.iload_n 2, 1) := by decide +kernel
theorem dX6_spot_108 : decode cX6_spot 108 = .ok (.if_icmp .ge 10, 3) := by decide +kernel
theorem dX6_spot_111 : decode cX6_spot 111 = .ok (.iload_n 2, 1) := by decide +kernel
theorem dX6_spot_112 : decode cX6_spot 112 = .ok (.iload 5, 2) := by decide +kernel
theorem dX6_spot_114 : decode cX6_spot 114 = .ok (.isub, 1) := by decide +kernel
theorem dX6_spot_115 : decode cX6_spot 115 = .ok (.goto 7, 3) := by decide +kernel
theorem dX6_spot_118 : decode cX6_spot 118 = .ok (.iload 5, 2) := by decide +kernel
theorem dX6_spot_120 : decode cX6_spot 120 = .ok (.iload_n 2, 1) := by decide +kernel
theorem dX6_spot_121 : decode cX6_spot 121 = .ok (.isub, 1) := by decide +kernel
theorem dX6_spot_122 : decode cX6_spot 122 = .ok (.istore 7, 2) := by decide +kernel
theorem dX6_spot_124 : decode cX6_spot 124 = .ok (.iload 6, 2) := by decide +kernel
theorem dX6_spot_126 : decode cX6_spot 126 = .ok (.ifCond .eq 19, 3) := by decide +kernel
theorem dX6_spot_129 : decode cX6_spot 129 = .ok (.iload_n 3, 1) := by decide +kernel
theorem dX6_spot_130 : decode cX6_spot 130 = .ok (.ifCond .lt 10, 3) := by decide +kernel
theorem dX6_spot_133 : decode cX6_spot 133 = .ok (.iload 7, 2) := by decide +kernel
theorem dX6_spot_135 : decode cX6_spot 135 = .ok (.iload 4, 2) := by decide +kernel
theorem dX6_spot_137 : decode cX6_spot 137 = .ok (.if_icmp .ge 8, 3) := by decide +kernel
theorem dX6_spot_140 : decode cX6_spot 140 = .ok (.iload 5, 2) := by decide +kernel
theorem dX6_spot_142 : decode cX6_spot 142 = .ok (.goto 4, 3) := by decide +kernel
theorem dX6_spot_145 : decode cX6_spot 145 = .ok (.iload_n 3, 1) := by decide +kernel
theorem dX6_spot_146 : decode cX6_spot 146 = .ok (.istore_n 3, 1) := by decide +kernel
theorem dX6_spot_147 : decode cX6_spot 147 = .ok (.iload_n 3, 1) := by decide +kernel
theorem dX6_spot_148 : decode cX6_spot 148 = .ok (.iload 5, 2) := by decide +kernel
theorem dX6_spot_150 : decode cX6_spot 150 = .ok (.if_icmp .ne 8, 3) := by decide +kernel
theorem dX6_spot_153 : decode cX6_spot 153 = .ok (.iload 7, 2) := by decide +kernel
theorem dX6_spot_155 : decode cX6_spot 155 = .ok (.goto 5, 3) := by decide +kernel
theorem dX6_spot_158 : decode cX6_spot 158 = .ok (.iload 4, 2) := by decide +kernel
theorem dX6_spot_160 : decode cX6_spot 160 = .ok (.istore 4, 2) := by decide +kernel
theorem dX6_spot_162 : decode cX6_spot 162 = .ok (.iinc 5 1, 3) := by decide +kernel
theorem dX6_spot_165 : decode cX6_spot 165 = .ok (.goto (-120), 3) := by decide +kernel
theorem dX6_spot_168 : decode cX6_spot 168 = .ok (.iload_n 3, 1) := by decide +kernel
theorem dX6_spot_169 : decode cX6_spot 169 = .ok (.ifCond .ge 12, 3) := by decide +kernel
theorem dX6_spot_172 : decode cX6_spot 172 = .ok (.aload_n 0, 1) := by decide +kernel
theorem dX6_spot_173 : decode cX6_spot 173 = .ok (.ldc 103, 2) := by decide +kernel
theorem dX6_spot_175 : decode cX6_spot 175 = .ok (.invokevirtual 64, 3) := by decide +kernel
theorem dX6_spot_178 : decode cX6_spot 178 = .ok (.goto 4, 3) := by decide +kernel
theorem dX6_spot_181 : decode cX6_spot 181 = .ok (.iload_n 3, 1) := by decide +kernel
theorem dX6_spot_182 : decode cX6_spot 182 = .ok (.ireturn, 1) := by decide +kernel
theorem dX6_facesAll_0 : decode cX6_facesAll 0 = .ok (.iconst 0, 1) := by decide +kernel
theorem dX6_facesAll_1 : decode cX6_facesAll 1 = .ok (.istore_n 2, 1) := by decide +kernel
theorem dX6_facesAll_2 : decode cX6_facesAll 2 = .ok (.iload_n 2, 1) := by decide +kernel
theorem dX6_facesAll_3 : decode cX6_facesAll 3 = .ok (.aload_n 0, 1) := by decide +kernel
theorem dX6_facesAll_4 : decode cX6_facesAll 4 = .ok (.getfield 7, 3) := by decide +kernel
theorem dX6_facesAll_7 : decode cX6_facesAll 7 = .ok (.iconst 0, 1) := by decide +kernel
theorem dX6_facesAll_8 : decode cX6_facesAll 8 = .ok (.iaload, 1) := by decide +kernel
theorem dX6_facesAll_9 : decode cX6_facesAll 9 = .ok (.if_icmp .ge 45, 3) := by decide +kernel
theorem dX6_facesAll_12 : decode cX6_facesAll 12 = .ok (.aload_n 0, 1) := by decide +kernel
theorem dX6_facesAll_13 : decode cX6_facesAll 13 = .ok (.getfield 7, 3) := by decide +kernel
theorem dX6_facesAll_16 : decode cX6_facesAll 16 = .ok (.iload_n 2, 1) := by decide +kernel
theorem dX6_facesAll_17 : decode cX6_facesAll 17 = .ok (.iconst 2, 1) := by decide +kernel
theorem dX6_facesAll_18 : decode cX6_facesAll 18 = .ok (.invokestatic 53, 3) := by decide +kernel
theorem dX6_facesAll_21 : decode cX6_facesAll 21 = .ok (.iload_n 1, 1) := by decide +kernel
theorem dX6_facesAll_22 : decode cX6_facesAll 22 = .ok (.iload_n 2, 1) := by decide +kernel
theorem dX6_facesAll_23 : decode cX6_facesAll 23 = .ok (.ishr, 1) := by decide +kernel
theorem dX6_facesAll_24 : decode cX6_facesAll 24 = .ok (.iconst 1, 1) := by decide +kernel
theorem dX6_facesAll_25 : decode cX6_facesAll 25 = .ok (.iand, 1) := by decide +kernel
theorem dX6_facesAll_26 : decode cX6_facesAll 26 = .ok (.iconst 1, 1) := by decide +kernel
theorem dX6_facesAll_27 : decode cX6_facesAll 27 = .ok (.if_icmp .ne 14, 3) := by decide +kernel
theorem dX6_facesAll_30 : decode cX6_facesAll 30 = .ok (.iconst 1, 1) := by decide +kernel
theorem dX6_facesAll_31 : decode cX6_facesAll 31 = .ok (.aload_n 0, 1) := by decide +kernel
theorem dX6_facesAll_32 : decode cX6_facesAll 32 = .ok (.iload_n 2, 1) := by decide +kernel
theorem dX6_facesAll_33 : decode cX6_facesAll 33 = .ok (.iconst 2, 1) := by decide +kernel
theorem dX6_facesAll_34 : decode cX6_facesAll 34 = .ok (.invokevirtual 57, 3) := by decide +kernel
theorem dX6_facesAll_37 : decode cX6_facesAll 37 = .ok (.isub, 1) := by decide +kernel
theorem dX6_facesAll_38 : decode cX6_facesAll 38 = .ok (.goto 9, 3) := by decide +kernel
theorem dX6_facesAll_41 : decode cX6_facesAll 41 = .ok (.aload_n 0, 1) := by decide +kernel
theorem dX6_facesAll_42 : decode cX6_facesAll 42 = .ok (.iload_n 2, 1) := by decide +kernel
theorem dX6_facesAll_43 : decode cX6_facesAll 43 = .ok (.iconst 2, 1) := by decide +kernel
theorem dX6_facesAll_44 : decode cX6_facesAll 44 = .ok (.invokevirtual 57, 3) := by decide +kernel
theorem dX6_facesAll_47 : decode cX6_facesAll 47 = .ok (.iastore, 1) := by decide +kernel
theorem dX6_facesAll_48 : decode cX6_facesAll 48 = .ok (.iinc 2 1, 3) := by decide +kernel
theorem dX6_facesAll_51 : decode cX6_facesAll 51 = .ok (.goto (-49), 3) := by decide +kernel
theorem dX6_facesAll_54 : decode cX6_facesAll 54 = .ok (.return_, 1) := by decide +kernel
theorem dX6_facing_0 : decode cX6_facing 0 = .ok (.aload_n 0, 1) := by decide +kernel
theorem dX6_facing_1 : decode cX6_facing 1 = .ok (.invokevirtual 117, 3) := by decide +kernel
theorem dX6_facing_4 : decode cX6_facing 4 = .ok (.istore_n 1, 1) := by decide +kernel
theorem dX6_facing_5 : decode cX6_facing 5 = .ok (.iconst 0, 1) := by decide +kernel
theorem dX6_facing_6 : decode cX6_facing 6 = .ok (.istore_n 2, 1) := by decide +kernel
theorem dX6_facing_7 : decode cX6_facing 7 = .ok (.aload_n 0, 1) := by decide +kernel
theorem dX6_facing_8 : decode cX6_facing 8 = .ok (.invokevirtual 160, 3) := by decide +kernel
theorem dX6_facing_11 : decode cX6_facing 11 = .ok (.istore_n 3, 1) := by decide +kernel
theorem dX6_facing_12 : decode cX6_facing 12 = .ok (.iconst 1, 1) := by decide +kernel
theorem dX6_facing_13 : decode cX6_facing 13 = .ok (.istore 4, 2) := by decide +kernel
theorem dX6_facing_15 : decode cX6_facing 15 = .ok (.iload 4, 2) := by decide +kernel
theorem dX6_facing_17 : decode cX6_facing 17 = .ok (.iconst 1, 1) := by decide +kernel
theorem dX6_facing_18 : decode cX6_facing 18 = .ok (.aload_n 0, 1) := by decide +kernel
theorem dX6_facing_19 : decode cX6_facing 19 = .ok (.getfield 7, 3) := by decide +kernel
theorem dX6_facing_22 : decode cX6_facing 22 = .ok (.iconst 0, 1) := by decide +kernel
theorem dX6_facing_23 : decode cX6_facing 23 = .ok (.iaload, 1) := by decide +kernel
theorem dX6_facing_24 : decode cX6_facing 24 = .ok (.ishl, 1) := by decide +kernel
theorem dX6_facing_25 : decode cX6_facing 25 = .ok (.if_icmp .ge 100, 3) := by decide +kernel
theorem dX6_facing_28 : decode cX6_facing 28 = .ok (.iload 4, 2) := by decide +kernel
theorem dX6_facing_30 : decode cX6_facing 30 = .ok (.iload_n 1, 1) := by decide +kernel
theorem dX6_facing_31 : decode cX6_facing 31 = .ok (.iconst (-1), 1) := by decide +kernel
theorem dX6_facing_32 : decode cX6_facing 32 = .ok (.ixor, 1) := by decide +kernel
theorem dX6_facing_33 : decode cX6_facing 33 = .ok (.iand, 1) := by decide +kernel
theorem dX6_facing_34 : decode cX6_facing 34 = .ok (.ifCond .ne 85, 3) := by decide +kernel
theorem dX6_facing_37 : decode cX6_facing 37 = .ok (.iload 4, 2) := by decide +kernel
theorem dX6_facing_39 : decode cX6_facing 39 = .ok (.invokestatic 121, 3) := by decide +kernel
theorem dX6_facing_42 : decode cX6_facing 42 = .ok (.iconst 2, 1) := by decide +kernel
theorem dX6_facing_43 : decode cX6_facing 43 = .ok (.if_icmp .gt 76, 3) := by decide +kernel
theorem dX6_facing_46 : decode cX6_facing 46 = .ok (.aload_n 0, 1) := by decide +kernel
theorem dX6_facing_47 : decode cX6_facing 47 = .ok (.iload 4, 2) := by decide +kernel
theorem dX6_facing_49 : decode cX6_facing 49 = .ok (.invokevirtual 179, 3) := by decide +kernel
theorem dX6_facing_52 : decode cX6_facing 52 = .ok (.aload_n 0, 1) := by decide +kernel
theorem dX6_facing_53 : decode cX6_facing 53 = .ok (.invokevirtual 160, 3) := by decide +kernel
theorem dX6_facing_56 : decode cX6_facing 56 = .ok (.istore 5, 2) := by decide +kernel
theorem dX6_facing_58 : decode cX6_facing 58 = .ok (.aload_n 0, 1) := by decide +kernel
theorem dX6_facing_59 : decode cX6_facing 59 = .ok (.iload 4, 2) := by decide +kernel
theorem dX6_facing_61 : decode cX6_facing 61 = .ok (.invokevirtual 179, 3) := by decide +kernel
theorem dX6_facing_64 : decode cX6_facing 64 = .ok (.iload 5, 2) := by decide +kernel
theorem dX6_facing_66 : decode cX6_facing 66 = .ok (.iload_n 3, 1) := by decide +kernel
theorem dX6_facing_67 : decode cX6_facing 67 = .ok (.if_icmp .lt 21, 3) := by decide +kernel
theorem dX6_facing_70 : decode cX6_facing 70 = .ok (.iload 5, 2) := by decide +kernel
theorem dX6_facing_72 : decode cX6_facing 72 = .ok (.iload_n 3, 1) := by decide +kernel
theorem dX6_facing_73 : decode cX6_facing 73 = .ok (.if_icmp .ne 19, 3) := by decide +kernel
theorem dX6_facing_76 : decode cX6_facing 76 = .ok (.iload 4, 2) := by decide +kernel
theorem dX6_facing_78 : decode cX6_facing 78 = .ok (.invokestatic 121, 3) := by decide +kernel
theorem dX6_facing_81 : decode cX6_facing 81 = .ok (.iload_n 2, 1) := by decide +kernel
theorem dX6_facing_82 : decode cX6_facing 82 = .ok (.invokestatic 121, 3) := by decide +kernel
theorem dX6_facing_85 : decode cX6_facing 85 = .ok (.if_icmp .ge 7, 3) := by decide +kernel
theorem dX6_facing_88 : decode cX6_facing 88 = .ok (.iconst 1, 1) := by decide +kernel
theorem dX6_facing_89 : decode cX6_facing 89 = .ok (.goto 4, 3) := by decide +kernel
theorem dX6_facing_92 : decode cX6_facing 92 = .ok (.iconst 0, 1) := by decide +kernel
theorem dX6_facing_93 : decode cX6_facing 93 = .ok (.istore 6, 2) := by decide +kernel
theorem dX6_facing_95 : decode cX6_facing 95 = .ok (.iload 6, 2) := by decide +kernel
theorem dX6_facing_97 : decode cX6_facing 97 = .ok (.ifCond .eq 8, 3) := by decide +kernel
theorem dX6_facing_100 : decode cX6_facing 100 = .ok (.iload 4, 2) := by decide +kernel
theorem dX6_facing_102 : decode cX6_facing 102 = .ok (.goto 4, 3) := by decide +kernel
theorem dX6_facing_105 : decode cX6_facing 105 = .ok (.iload_n 2, 1) := by decide +kernel
theorem dX6_facing_106 : decode cX6_facing 106 = .ok (.istore_n 2, 1) := by decide +kernel
theorem dX6_facing_107 : decode cX6_facing 107 = .ok (.iload 6, 2) := by decide +kernel
theorem dX6_facing_109 : decode cX6_facing 109 = .ok (.ifCond .eq 8, 3) := by decide +kernel
theorem dX6_facing_112 : decode cX6_facing 112 = .ok (.iload 5, 2) := by decide +kernel
theorem dX6_facing_114 : decode cX6_facing 114 = .ok (.goto 4, 3) := by decide +kernel
theorem dX6_facing_117 : decode cX6_facing 117 = .ok (.iload_n 3, 1) := by decide +kernel
theorem dX6_facing_118 : decode cX6_facing 118 = .ok (.istore_n 3, 1) := by decide +kernel
theorem dX6_facing_119 : decode cX6_facing 119 = .ok (.iinc 4 1, 3) := by decide +kernel
theorem dX6_facing_122 : decode cX6_facing 122 = .ok (.goto (-107), 3) := by decide +kernel
theorem dX6_facing_125 : decode cX6_facing 125 = .ok (.iload_n 2, 1) := by decide +kernel
theorem dX6_facing_126 : decode cX6_facing 126 = .ok (.ireturn, 1) := by decide +kernel
theorem dX6_clears_0 : decode cX6_clears 0 = .ok (.iload_n 1, 1) := by decide +kernel
theorem dX6_clears_1 : decode cX6_clears 1 = .ok (.i2l, 1) := by decide +kernel
theorem dX6_clears_2 : decode cX6_clears 2 = .ok (.lconst 0, 1) := by decide +kernel
theorem dX6_clears_3 : decode cX6_clears 3 = .ok (.lconst 1, 1) := by decide +kernel
theorem dX6_clears_4 : decode cX6_clears 4 = .ok (.invokestatic 47, 3) := by decide +kernel
theorem dX6_clears_7 : decode cX6_clears 7 = .ok (.ifCond .ne 10, 3) := by decide +kernel
theorem dX6_clears_10 : decode cX6_clears 10 = .ok (.aload_n 0, 1) := by decide +kernel
theorem dX6_clears_11 : decode cX6_clears 11 = .ok (.ldc 44, 2) := by decide +kernel
theorem dX6_clears_13 : decode cX6_clears 13 = .ok (.invokevirtual 64, 3) := by decide +kernel
theorem dX6_clears_16 : decode cX6_clears 16 = .ok (.ireturn, 1) := by decide +kernel
theorem dX6_clears_17 : decode cX6_clears 17 = .ok (.aload_n 0, 1) := by decide +kernel
theorem dX6_clears_18 : decode cX6_clears 18 = .ok (.invokevirtual 183, 3) := by decide +kernel
theorem dX6_clears_21 : decode cX6_clears 21 = .ok (.iconst 0, 1) := by decide +kernel
theorem dX6_clears_22 : decode cX6_clears 22 = .ok (.istore_n 2, 1) := by decide +kernel
theorem dX6_clears_23 : decode cX6_clears 23 = .ok (.iconst 0, 1) := by decide +kernel
theorem dX6_clears_24 : decode cX6_clears 24 = .ok (.istore_n 3, 1) := by decide +kernel
theorem dX6_clears_25 : decode cX6_clears 25 = .ok (.iload_n 3, 1) := by decide +kernel
theorem dX6_clears_26 : decode cX6_clears 26 = .ok (.aload_n 0, 1) := by decide +kernel
theorem dX6_clears_27 : decode cX6_clears 27 = .ok (.getfield 7, 3) := by decide +kernel
theorem dX6_clears_30 : decode cX6_clears 30 = .ok (.iconst 0, 1) := by decide +kernel
theorem dX6_clears_31 : decode cX6_clears 31 = .ok (.iaload, 1) := by decide +kernel
theorem dX6_clears_32 : decode cX6_clears 32 = .ok (.if_icmp .ge 37, 3) := by decide +kernel
theorem dX6_clears_35 : decode cX6_clears 35 = .ok (.aload_n 0, 1) := by decide +kernel
theorem dX6_clears_36 : decode cX6_clears 36 = .ok (.iload_n 3, 1) := by decide +kernel
theorem dX6_clears_37 : decode cX6_clears 37 = .ok (.invokevirtual 104, 3) := by decide +kernel
theorem dX6_clears_40 : decode cX6_clears 40 = .ok (.ifCond .eq 23, 3) := by decide +kernel
theorem dX6_clears_43 : decode cX6_clears 43 = .ok (.iload_n 2, 1) := by decide +kernel
theorem dX6_clears_44 : decode cX6_clears 44 = .ok (.aload_n 0, 1) := by decide +kernel
theorem dX6_clears_45 : decode cX6_clears 45 = .ok (.iload_n 3, 1) := by decide +kernel
theorem dX6_clears_46 : decode cX6_clears 46 = .ok (.iload_n 1, 1) := by decide +kernel
theorem dX6_clears_47 : decode cX6_clears 47 = .ok (.invokevirtual 151, 3) := by decide +kernel
theorem dX6_clears_50 : decode cX6_clears 50 = .ok (.invokestatic 121, 3) := by decide +kernel
theorem dX6_clears_53 : decode cX6_clears 53 = .ok (.iadd, 1) := by decide +kernel
theorem dX6_clears_54 : decode cX6_clears 54 = .ok (.istore_n 2, 1) := by decide +kernel
theorem dX6_clears_55 : decode cX6_clears 55 = .ok (.aload_n 0, 1) := by decide +kernel
theorem dX6_clears_56 : decode cX6_clears 56 = .ok (.iload_n 3, 1) := by decide +kernel
theorem dX6_clears_57 : decode cX6_clears 57 = .ok (.iload_n 1, 1) := by decide +kernel
theorem dX6_clears_58 : decode cX6_clears 58 = .ok (.invokevirtual 157, 3) := by decide +kernel
theorem dX6_clears_61 : decode cX6_clears 61 = .ok (.istore 4, 2) := by decide +kernel
theorem dX6_clears_63 : decode cX6_clears 63 = .ok (.iinc 3 1, 3) := by decide +kernel
theorem dX6_clears_66 : decode cX6_clears 66 = .ok (.goto (-41), 3) := by decide +kernel
theorem dX6_clears_69 : decode cX6_clears 69 = .ok (.aload_n 0, 1) := by decide +kernel
theorem dX6_clears_70 : decode cX6_clears 70 = .ok (.iload_n 2, 1) := by decide +kernel
theorem dX6_clears_71 : decode cX6_clears 71 = .ok (.invokevirtual 186, 3) := by decide +kernel
theorem dX6_clears_74 : decode cX6_clears 74 = .ok (.ireturn, 1) := by decide +kernel
theorem dX6_isUntangled_0 : decode cX6_isUntangled 0 = .ok (.iconst 1, 1) := by decide +kernel
theorem dX6_isUntangled_1 : decode cX6_isUntangled 1 = .ok (.istore_n 2, 1) := by decide +kernel
theorem dX6_isUntangled_2 : decode cX6_isUntangled 2 = .ok (.iconst 0, 1) := by decide +kernel
theorem dX6_isUntangled_3 : decode cX6_isUntangled 3 = .ok (.istore_n 3, 1) := by decide +kernel
theorem dX6_isUntangled_4 : decode cX6_isUntangled 4 = .ok (.iload_n 3, 1) := by decide +kernel
theorem dX6_isUntangled_5 : decode cX6_isUntangled 5 = .ok (.aload_n 0, 1) := by decide +kernel
theorem dX6_isUntangled_6 : decode cX6_isUntangled 6 = .ok (.getfield 7, 3) := by decide +kernel
theorem dX6_isUntangled_9 : decode cX6_isUntangled 9 = .ok (.iconst 0, 1) := by decide +kernel
theorem dX6_isUntangled_10 : decode cX6_isUntangled 10 = .ok (.iaload, 1) := by decide +kernel
theorem dX6_isUntangled_11 : decode cX6_isUntangled 11 = .ok (.if_icmp .ge 38, 3) := by decide +kernel
theorem dX6_isUntangled_14 : decode cX6_isUntangled 14 = .ok (.iload_n 2, 1) := by decide +kernel
theorem dX6_isUntangled_15 : decode cX6_isUntangled 15 = .ok (.ifCond .eq 26, 3) := by decide +kernel
theorem dX6_isUntangled_18 : decode cX6_isUntangled 18 = .ok (.iload_n 1, 1) := by decide +kernel
theorem dX6_isUntangled_19 : decode cX6_isUntangled 19 = .ok (.iload_n 3, 1) := by decide +kernel
theorem dX6_isUntangled_20 : decode cX6_isUntangled 20 = .ok (.ishr, 1) := by decide +kernel
theorem dX6_isUntangled_21 : decode cX6_isUntangled 21 = .ok (.iconst 1, 1) := by decide +kernel
theorem dX6_isUntangled_22 : decode cX6_isUntangled 22 = .ok (.iand, 1) := by decide +kernel
theorem dX6_isUntangled_23 : decode cX6_isUntangled 23 = .ok (.ifCond .eq 14, 3) := by decide +kernel
theorem dX6_isUntangled_26 : decode cX6_isUntangled 26 = .ok (.aload_n 0, 1) := by decide +kernel
theorem dX6_isUntangled_27 : decode cX6_isUntangled 27 = .ok (.getfield 25, 3) := by decide +kernel
theorem dX6_isUntangled_30 : decode cX6_isUntangled 30 = .ok (.iload_n 3, 1) := by decide +kernel
theorem dX6_isUntangled_31 : decode cX6_isUntangled 31 = .ok (.iaload, 1) := by decide +kernel
theorem dX6_isUntangled_32 : decode cX6_isUntangled 32 = .ok (.iload_n 1, 1) := by decide +kernel
theorem dX6_isUntangled_33 : decode cX6_isUntangled 33 = .ok (.iand, 1) := by decide +kernel
theorem dX6_isUntangled_34 : decode cX6_isUntangled 34 = .ok (.ifCond .ne 7, 3) := by decide +kernel
theorem dX6_isUntangled_37 : decode cX6_isUntangled 37 = .ok (.iconst 1, 1) := by decide +kernel
theorem dX6_isUntangled_38 : decode cX6_isUntangled 38 = .ok (.goto 4, 3) := by decide +kernel
theorem dX6_isUntangled_41 : decode cX6_isUntangled 41 = .ok (.iconst 0, 1) := by decide +kernel
theorem dX6_isUntangled_42 : decode cX6_isUntangled 42 = .ok (.istore_n 2, 1) := by decide +kernel
theorem dX6_isUntangled_43 : decode cX6_isUntangled 43 = .ok (.iinc 3 1, 3) := by decide +kernel
theorem dX6_isUntangled_46 : decode cX6_isUntangled 46 = .ok (.goto (-42), 3) := by decide +kernel
theorem dX6_isUntangled_49 : decode cX6_isUntangled 49 = .ok (.iload_n 2, 1) := by decide +kernel
theorem dX6_isUntangled_50 : decode cX6_isUntangled 50 = .ok (.ireturn, 1) := by decide +kernel
theorem dX6_fewestAway_0 : decode cX6_fewestAway 0 = .ok (.aload_n 0, 1) := by decide +kernel
theorem dX6_fewestAway_1 : decode cX6_fewestAway 1 = .ok (.invokevirtual 117, 3) := by decide +kernel
theorem dX6_fewestAway_4 : decode cX6_fewestAway 4 = .ok (.istore_n 1, 1) := by decide +kernel
theorem dX6_fewestAway_5 : decode cX6_fewestAway 5 = .ok (.iconst 0, 1) := by decide +kernel
theorem dX6_fewestAway_6 : decode cX6_fewestAway 6 = .ok (.istore_n 2, 1) := by decide +kernel
theorem dX6_fewestAway_7 : decode cX6_fewestAway 7 = .ok (.iload_n 2, 1) := by decide +kernel
theorem dX6_fewestAway_8 : decode cX6_fewestAway 8 = .ok (.aload_n 0, 1) := by decide +kernel
theorem dX6_fewestAway_9 : decode cX6_fewestAway 9 = .ok (.getfield 7, 3) := by decide +kernel
theorem dX6_fewestAway_12 : decode cX6_fewestAway 12 = .ok (.iconst 0, 1) := by decide +kernel
theorem dX6_fewestAway_13 : decode cX6_fewestAway 13 = .ok (.iaload, 1) := by decide +kernel
theorem dX6_fewestAway_14 : decode cX6_fewestAway 14 = .ok (.if_icmp .ge 20, 3) := by decide +kernel
theorem dX6_fewestAway_17 : decode cX6_fewestAway 17 = .ok (.aload_n 0, 1) := by decide +kernel
theorem dX6_fewestAway_18 : decode cX6_fewestAway 18 = .ok (.getfield 25, 3) := by decide +kernel
theorem dX6_fewestAway_21 : decode cX6_fewestAway 21 = .ok (.iload_n 2, 1) := by decide +kernel
theorem dX6_fewestAway_22 : decode cX6_fewestAway 22 = .ok (.aload_n 0, 1) := by decide +kernel
theorem dX6_fewestAway_23 : decode cX6_fewestAway 23 = .ok (.iload_n 2, 1) := by decide +kernel
theorem dX6_fewestAway_24 : decode cX6_fewestAway 24 = .ok (.invokevirtual 134, 3) := by decide +kernel
theorem dX6_fewestAway_27 : decode cX6_fewestAway 27 = .ok (.iastore, 1) := by decide +kernel
theorem dX6_fewestAway_28 : decode cX6_fewestAway 28 = .ok (.iinc 2 1, 3) := by decide +kernel
theorem dX6_fewestAway_31 : decode cX6_fewestAway 31 = .ok (.goto (-24), 3) := by decide +kernel
theorem dX6_fewestAway_34 : decode cX6_fewestAway 34 = .ok (.iload_n 1, 1) := by decide +kernel
theorem dX6_fewestAway_35 : decode cX6_fewestAway 35 = .ok (.istore_n 2, 1) := by decide +kernel
theorem dX6_fewestAway_36 : decode cX6_fewestAway 36 = .ok (.iconst 0, 1) := by decide +kernel
theorem dX6_fewestAway_37 : decode cX6_fewestAway 37 = .ok (.istore_n 3, 1) := by decide +kernel
theorem dX6_fewestAway_38 : decode cX6_fewestAway 38 = .ok (.iload_n 3, 1) := by decide +kernel
theorem dX6_fewestAway_39 : decode cX6_fewestAway 39 = .ok (.iload_n 1, 1) := by decide +kernel
theorem dX6_fewestAway_40 : decode cX6_fewestAway 40 = .ok (.if_icmp .gt 46, 3) := by decide +kernel
theorem dX6_fewestAway_43 : decode cX6_fewestAway 43 = .ok (.iload_n 3, 1) := by decide +kernel
theorem dX6_fewestAway_44 : decode cX6_fewestAway 44 = .ok (.iload_n 1, 1) := by decide +kernel
theorem dX6_fewestAway_45 : decode cX6_fewestAway 45 = .ok (.iconst (-1), 1) := by decide +kernel
theorem dX6_fewestAway_46 : decode cX6_fewestAway 46 = .ok (.ixor, 1) := by decide +kernel
theorem dX6_fewestAway_47 : decode cX6_fewestAway 47 = .ok (.iand, 1) := by decide +kernel
theorem dX6_fewestAway_48 : decode cX6_fewestAway 48 = .ok (.ifCond .ne 30, 3) := by decide +kernel
theorem dX6_fewestAway_51 : decode cX6_fewestAway 51 = .ok (.iload_n 3, 1) := by decide +kernel
theorem dX6_fewestAway_52 : decode cX6_fewestAway 52 = .ok (.invokestatic 121, 3) := by decide +kernel
theorem dX6_fewestAway_55 : decode cX6_fewestAway 55 = .ok (.iload_n 2, 1) := by decide +kernel
theorem dX6_fewestAway_56 : decode cX6_fewestAway 56 = .ok (.invokestatic 121, 3) := by decide +kernel
theorem dX6_fewestAway_59 : decode cX6_fewestAway 59 = .ok (.if_icmp .ge 19, 3) := by decide +kernel
theorem dX6_fewestAway_62 : decode cX6_fewestAway 62 = .ok (.aload_n 0, 1) := by decide +kernel
theorem dX6_fewestAway_63 : decode cX6_fewestAway 63 = .ok (.iload_n 1, 1) := by decide +kernel
theorem dX6_fewestAway_64 : decode cX6_fewestAway 64 = .ok (.iload_n 3, 1) := by decide +kernel
theorem dX6_fewestAway_65 : decode cX6_fewestAway 65 = .ok (.iconst (-1), 1) := by decide +kernel
theorem dX6_fewestAway_66 : decode cX6_fewestAway 66 = .ok (.ixor, 1) := by decide +kernel
theorem dX6_fewestAway_67 : decode cX6_fewestAway 67 = .ok (.iand, 1) := by decide +kernel
theorem dX6_fewestAway_68 : decode cX6_fewestAway 68 = .ok (.invokevirtual 189, 3) := by decide +kernel
theorem dX6_fewestAway_71 : decode cX6_fewestAway 71 = .ok (.ifCond .eq 7, 3) := by decide +kernel
theorem dX6_fewestAway_74 : decode cX6_fewestAway 74 = .ok (.iload_n 3, 1) := by decide +kernel
theorem dX6_fewestAway_75 : decode cX6_fewestAway 75 = .ok (.goto 4, 3) := by decide +kernel
theorem dX6_fewestAway_78 : decode cX6_fewestAway 78 = .ok (.iload_n 2, 1) := by decide +kernel
theorem dX6_fewestAway_79 : decode cX6_fewestAway 79 = .ok (.istore_n 2, 1) := by decide +kernel
theorem dX6_fewestAway_80 : decode cX6_fewestAway 80 = .ok (.iinc 3 1, 3) := by decide +kernel
theorem dX6_fewestAway_83 : decode cX6_fewestAway 83 = .ok (.goto (-45), 3) := by decide +kernel
theorem dX6_fewestAway_86 : decode cX6_fewestAway 86 = .ok (.iload_n 2, 1) := by decide +kernel
theorem dX6_fewestAway_87 : decode cX6_fewestAway 87 = .ok (.ireturn, 1) := by decide +kernel
theorem dX6_untangle_0 : decode cX6_untangle 0 = .ok (.aload_n 0, 1) := by decide +kernel
theorem dX6_untangle_1 : decode cX6_untangle 1 = .ok (.invokevirtual 192, 3) := by decide +kernel
theorem dX6_untangle_4 : decode cX6_untangle 4 = .ok (.ireturn, 1) := by decide +kernel
theorem dX6_saves_0 : decode cX6_saves 0 = .ok (.iconst 0, 1) := by decide +kernel
theorem dX6_saves_1 : decode cX6_saves 1 = .ok (.istore_n 1, 1) := by decide +kernel
theorem dX6_saves_2 : decode cX6_saves 2 = .ok (.iconst 0, 1) := by decide +kernel
theorem dX6_saves_3 : decode cX6_saves 3 = .ok (.istore_n 2, 1) := by decide +kernel
theorem dX6_saves_4 : decode cX6_saves 4 = .ok (.iload_n 2, 1) := by decide +kernel
theorem dX6_saves_5 : decode cX6_saves 5 = .ok (.aload_n 0, 1) := by decide +kernel
theorem dX6_saves_6 : decode cX6_saves 6 = .ok (.getfield 7, 3) := by decide +kernel
theorem dX6_saves_9 : decode cX6_saves 9 = .ok (.iconst 0, 1) := by decide +kernel
theorem dX6_saves_10 : decode cX6_saves 10 = .ok (.iaload, 1) := by decide +kernel
theorem dX6_saves_11 : decode cX6_saves 11 = .ok (.if_icmp .ge 25, 3) := by decide +kernel
theorem dX6_saves_14 : decode cX6_saves 14 = .ok (.iload_n 1, 1) := by decide +kernel
theorem dX6_saves_15 : decode cX6_saves 15 = .ok (.aload_n 0, 1) := by decide +kernel
theorem dX6_saves_16 : decode cX6_saves 16 = .ok (.iload_n 2, 1) := by decide +kernel
theorem dX6_saves_17 : decode cX6_saves 17 = .ok (.invokevirtual 134, 3) := by decide +kernel
theorem dX6_saves_20 : decode cX6_saves 20 = .ok (.ifCond .eq 7, 3) := by decide +kernel
theorem dX6_saves_23 : decode cX6_saves 23 = .ok (.iconst 1, 1) := by decide +kernel
theorem dX6_saves_24 : decode cX6_saves 24 = .ok (.goto 4, 3) := by decide +kernel
theorem dX6_saves_27 : decode cX6_saves 27 = .ok (.iconst 0, 1) := by decide +kernel
theorem dX6_saves_28 : decode cX6_saves 28 = .ok (.iadd, 1) := by decide +kernel
theorem dX6_saves_29 : decode cX6_saves 29 = .ok (.istore_n 1, 1) := by decide +kernel
theorem dX6_saves_30 : decode cX6_saves 30 = .ok (.iinc 2 1, 3) := by decide +kernel
theorem dX6_saves_33 : decode cX6_saves 33 = .ok (.goto (-29), 3) := by decide +kernel
theorem dX6_saves_36 : decode cX6_saves 36 = .ok (.aload_n 0, 1) := by decide +kernel
theorem dX6_saves_37 : decode cX6_saves 37 = .ok (.getfield 7, 3) := by decide +kernel
theorem dX6_saves_40 : decode cX6_saves 40 = .ok (.iconst 2, 1) := by decide +kernel
theorem dX6_saves_41 : decode cX6_saves 41 = .ok (.iaload, 1) := by decide +kernel
theorem dX6_saves_42 : decode cX6_saves 42 = .ok (.iload_n 1, 1) := by decide +kernel
theorem dX6_saves_43 : decode cX6_saves 43 = .ok (.imul, 1) := by decide +kernel
theorem dX6_saves_44 : decode cX6_saves 44 = .ok (.iconst 2, 1) := by decide +kernel
theorem dX6_saves_45 : decode cX6_saves 45 = .ok (.aload_n 0, 1) := by decide +kernel
theorem dX6_saves_46 : decode cX6_saves 46 = .ok (.invokevirtual 192, 3) := by decide +kernel
theorem dX6_saves_49 : decode cX6_saves 49 = .ok (.invokestatic 121, 3) := by decide +kernel
theorem dX6_saves_52 : decode cX6_saves 52 = .ok (.imul, 1) := by decide +kernel
theorem dX6_saves_53 : decode cX6_saves 53 = .ok (.isub, 1) := by decide +kernel
theorem dX6_saves_54 : decode cX6_saves 54 = .ok (.ireturn, 1) := by decide +kernel
theorem dX6_feels_0 : decode cX6_feels 0 = .ok (.iload_n 1, 1) := by decide +kernel
theorem dX6_feels_1 : decode cX6_feels 1 = .ok (.i2l, 1) := by decide +kernel
theorem dX6_feels_2 : decode cX6_feels 2 = .ok (.lconst 0, 1) := by decide +kernel
theorem dX6_feels_3 : decode cX6_feels 3 = .ok (.ldc2_w 85, 3) := by decide +kernel
theorem dX6_feels_6 : decode cX6_feels 6 = .ok (.invokestatic 47, 3) := by decide +kernel
theorem dX6_feels_9 : decode cX6_feels 9 = .ok (.ifCond .ne 10, 3) := by decide +kernel
theorem dX6_feels_12 : decode cX6_feels 12 = .ok (.aload_n 0, 1) := by decide +kernel
theorem dX6_feels_13 : decode cX6_feels 13 = .ok (.ldc 44, 2) := by decide +kernel
theorem dX6_feels_15 : decode cX6_feels 15 = .ok (.invokevirtual 64, 3) := by decide +kernel
theorem dX6_feels_18 : decode cX6_feels 18 = .ok (.ireturn, 1) := by decide +kernel
theorem dX6_feels_19 : decode cX6_feels 19 = .ok (.iconst (-1), 1) := by decide +kernel
theorem dX6_feels_20 : decode cX6_feels 20 = .ok (.istore_n 2, 1) := by decide +kernel
theorem dX6_feels_21 : decode cX6_feels 21 = .ok (.iconst 0, 1) := by decide +kernel
theorem dX6_feels_22 : decode cX6_feels 22 = .ok (.istore_n 3, 1) := by decide +kernel
theorem dX6_feels_23 : decode cX6_feels 23 = .ok (.iconst 0, 1) := by decide +kernel
theorem dX6_feels_24 : decode cX6_feels 24 = .ok (.istore 4, 2) := by decide +kernel
theorem dX6_feels_26 : decode cX6_feels 26 = .ok (.iload 4, 2) := by decide +kernel
theorem dX6_feels_28 : decode cX6_feels 28 = .ok (.aload_n 0, 1) := by decide +kernel
theorem dX6_feels_29 : decode cX6_feels 29 = .ok (.getfield 7, 3) := by decide +kernel
theorem dX6_feels_32 : decode cX6_feels 32 = .ok (.iconst 0, 1) := by decide +kernel
theorem dX6_feels_33 : decode cX6_feels 33 = .ok (.iaload, 1) := by decide +kernel
theorem dX6_feels_34 : decode cX6_feels 34 = .ok (.if_icmp .ge 77, 3) := by decide +kernel
theorem dX6_feels_37 : decode cX6_feels 37 = .ok (.aload_n 0, 1) := by decide +kernel
theorem dX6_feels_38 : decode cX6_feels 38 = .ok (.iload 4, 2) := by decide +kernel
theorem dX6_feels_40 : decode cX6_feels 40 = .ok (.invokevirtual 104, 3) := by decide +kernel
theorem dX6_feels_43 : decode cX6_feels 43 = .ok (.ifCond .eq 62, 3) := by decide +kernel
theorem dX6_feels_46 : decode cX6_feels 46 = .ok (.iconst 4, 1) := by decide +kernel
theorem dX6_feels_47 : decode cX6_feels 47 = .ok (.aload_n 0, 1) := by decide +kernel
theorem dX6_feels_48 : decode cX6_feels 48 = .ok (.iload 4, 2) := by decide +kernel
theorem dX6_feels_50 : decode cX6_feels 50 = .ok (.iconst 4, 1) := by decide +kernel
theorem dX6_feels_51 : decode cX6_feels 51 = .ok (.invokevirtual 57, 3) := by decide +kernel
theorem dX6_feels_54 : decode cX6_feels 54 = .ok (.iload_n 1, 1) := by decide +kernel
theorem dX6_feels_55 : decode cX6_feels 55 = .ok (.ixor, 1) := by decide +kernel
theorem dX6_feels_56 : decode cX6_feels 56 = .ok (.invokestatic 121, 3) := by decide +kernel
theorem dX6_feels_59 : decode cX6_feels 59 = .ok (.isub, 1) := by decide +kernel
theorem dX6_feels_60 : decode cX6_feels 60 = .ok (.istore 5, 2) := by decide +kernel
theorem dX6_feels_62 : decode cX6_feels 62 = .ok (.iload 5, 2) := by decide +kernel
theorem dX6_feels_64 : decode cX6_feels 64 = .ok (.iload_n 2, 1) := by decide +kernel
theorem dX6_feels_65 : decode cX6_feels 65 = .ok (.if_icmp .le 10, 3) := by decide +kernel
theorem dX6_feels_68 : decode cX6_feels 68 = .ok (.iconst 1, 1) := by decide +kernel
theorem dX6_feels_69 : decode cX6_feels 69 = .ok (.iload 4, 2) := by decide +kernel
theorem dX6_feels_71 : decode cX6_feels 71 = .ok (.ishl, 1) := by decide +kernel
theorem dX6_feels_72 : decode cX6_feels 72 = .ok (.goto 19, 3) := by decide +kernel
theorem dX6_feels_75 : decode cX6_feels 75 = .ok (.iload 5, 2) := by decide +kernel
theorem dX6_feels_77 : decode cX6_feels 77 = .ok (.iload_n 2, 1) := by decide +kernel
theorem dX6_feels_78 : decode cX6_feels 78 = .ok (.if_icmp .ne 12, 3) := by decide +kernel
theorem dX6_feels_81 : decode cX6_feels 81 = .ok (.iload_n 3, 1) := by decide +kernel
theorem dX6_feels_82 : decode cX6_feels 82 = .ok (.iconst 1, 1) := by decide +kernel
theorem dX6_feels_83 : decode cX6_feels 83 = .ok (.iload 4, 2) := by decide +kernel
theorem dX6_feels_85 : decode cX6_feels 85 = .ok (.ishl, 1) := by decide +kernel
theorem dX6_feels_86 : decode cX6_feels 86 = .ok (.ior, 1) := by decide +kernel
theorem dX6_feels_87 : decode cX6_feels 87 = .ok (.goto 4, 3) := by decide +kernel
theorem dX6_feels_90 : decode cX6_feels 90 = .ok (.iload_n 3, 1) := by decide +kernel
theorem dX6_feels_91 : decode cX6_feels 91 = .ok (.istore_n 3, 1) := by decide +kernel
theorem dX6_feels_92 : decode cX6_feels 92 = .ok (.iload 5, 2) := by decide +kernel
theorem dX6_feels_94 : decode cX6_feels 94 = .ok (.iload_n 2, 1) := by decide +kernel
theorem dX6_feels_95 : decode cX6_feels 95 = .ok (.if_icmp .le 8, 3) := by decide +kernel
theorem dX6_feels_98 : decode cX6_feels 98 = .ok (.iload 5, 2) := by decide +kernel
theorem dX6_feels_100 : decode cX6_feels 100 = .ok (.goto 4, 3) := by decide +kernel
theorem dX6_feels_103 : decode cX6_feels 103 = .ok (.iload_n 2, 1) := by decide +kernel
theorem dX6_feels_104 : decode cX6_feels 104 = .ok (.istore_n 2, 1) := by decide +kernel
theorem dX6_feels_105 : decode cX6_feels 105 = .ok (.iinc 4 1, 3) := by decide +kernel
theorem dX6_feels_108 : decode cX6_feels 108 = .ok (.goto (-82), 3) := by decide +kernel
theorem dX6_feels_111 : decode cX6_feels 111 = .ok (.iload_n 2, 1) := by decide +kernel
theorem dX6_feels_112 : decode cX6_feels 112 = .ok (.ifCond .ge 12, 3) := by decide +kernel
theorem dX6_feels_115 : decode cX6_feels 115 = .ok (.aload_n 0, 1) := by decide +kernel
theorem dX6_feels_116 : decode cX6_feels 116 = .ok (.ldc 103, 2) := by decide +kernel
theorem dX6_feels_118 : decode cX6_feels 118 = .ok (.invokevirtual 64, 3) := by decide +kernel
theorem dX6_feels_121 : decode cX6_feels 121 = .ok (.goto 4, 3) := by decide +kernel
theorem dX6_feels_124 : decode cX6_feels 124 = .ok (.iload_n 3, 1) := by decide +kernel
theorem dX6_feels_125 : decode cX6_feels 125 = .ok (.ireturn, 1) := by decide +kernel
theorem dX6_kind_0 : decode cX6_kind 0 = .ok (.aload_n 0, 1) := by decide +kernel
theorem dX6_kind_1 : decode cX6_kind 1 = .ok (.iload_n 1, 1) := by decide +kernel
theorem dX6_kind_2 : decode cX6_kind 2 = .ok (.invokevirtual 72, 3) := by decide +kernel
theorem dX6_kind_5 : decode cX6_kind 5 = .ok (.ifCond .ne 10, 3) := by decide +kernel
theorem dX6_kind_8 : decode cX6_kind 8 = .ok (.aload_n 0, 1) := by decide +kernel
theorem dX6_kind_9 : decode cX6_kind 9 = .ok (.ldc 44, 2) := by decide +kernel
theorem dX6_kind_11 : decode cX6_kind 11 = .ok (.invokevirtual 64, 3) := by decide +kernel
theorem dX6_kind_14 : decode cX6_kind 14 = .ok (.ireturn, 1) := by decide +kernel
theorem dX6_kind_15 : decode cX6_kind 15 = .ok (.aload_n 0, 1) := by decide +kernel
theorem dX6_kind_16 : decode cX6_kind 16 = .ok (.iload_n 1, 1) := by decide +kernel
theorem dX6_kind_17 : decode cX6_kind 17 = .ok (.invokevirtual 104, 3) := by decide +kernel
theorem dX6_kind_20 : decode cX6_kind 20 = .ok (.ifCond .ne 10, 3) := by decide +kernel
theorem dX6_kind_23 : decode cX6_kind 23 = .ok (.aload_n 0, 1) := by decide +kernel
theorem dX6_kind_24 : decode cX6_kind 24 = .ok (.ldc 112, 2) := by decide +kernel
theorem dX6_kind_26 : decode cX6_kind 26 = .ok (.invokevirtual 64, 3) := by decide +kernel
theorem dX6_kind_29 : decode cX6_kind 29 = .ok (.ireturn, 1) := by decide +kernel
theorem dX6_kind_30 : decode cX6_kind 30 = .ok (.aload_n 0, 1) := by decide +kernel
theorem dX6_kind_31 : decode cX6_kind 31 = .ok (.iload_n 1, 1) := by decide +kernel
theorem dX6_kind_32 : decode cX6_kind 32 = .ok (.iconst 0, 1) := by decide +kernel
theorem dX6_kind_33 : decode cX6_kind 33 = .ok (.invokevirtual 57, 3) := by decide +kernel
theorem dX6_kind_36 : decode cX6_kind 36 = .ok (.istore_n 2, 1) := by decide +kernel
theorem dX6_kind_37 : decode cX6_kind 37 = .ok (.iconst 0, 1) := by decide +kernel
theorem dX6_kind_38 : decode cX6_kind 38 = .ok (.istore_n 3, 1) := by decide +kernel
theorem dX6_kind_39 : decode cX6_kind 39 = .ok (.bipush 12, 2) := by decide +kernel
theorem dX6_kind_41 : decode cX6_kind 41 = .ok (.istore 4, 2) := by decide +kernel
theorem dX6_kind_43 : decode cX6_kind 43 = .ok (.iconst 0, 1) := by decide +kernel
theorem dX6_kind_44 : decode cX6_kind 44 = .ok (.istore 5, 2) := by decide +kernel
theorem dX6_kind_46 : decode cX6_kind 46 = .ok (.iload 5, 2) := by decide +kernel
theorem dX6_kind_48 : decode cX6_kind 48 = .ok (.iconst 5, 1) := by decide +kernel
theorem dX6_kind_49 : decode cX6_kind 49 = .ok (.if_icmp .gt 61, 3) := by decide +kernel
theorem dX6_kind_52 : decode cX6_kind 52 = .ok (.aload_n 0, 1) := by decide +kernel
theorem dX6_kind_53 : decode cX6_kind 53 = .ok (.getfield 7, 3) := by decide +kernel
theorem dX6_kind_56 : decode cX6_kind 56 = .ok (.iload_n 1, 1) := by decide +kernel
theorem dX6_kind_57 : decode cX6_kind 57 = .ok (.iconst 0, 1) := by decide +kernel
theorem dX6_kind_58 : decode cX6_kind 58 = .ok (.invokestatic 53, 3) := by decide +kernel
theorem dX6_kind_61 : decode cX6_kind 61 = .ok (.iload 5, 2) := by decide +kernel
theorem dX6_kind_63 : decode cX6_kind 63 = .ok (.iastore, 1) := by decide +kernel
theorem dX6_kind_64 : decode cX6_kind 64 = .ok (.aload_n 0, 1) := by decide +kernel
theorem dX6_kind_65 : decode cX6_kind 65 = .ok (.iload_n 1, 1) := by decide +kernel
theorem dX6_kind_66 : decode cX6_kind 66 = .ok (.invokevirtual 134, 3) := by decide +kernel
theorem dX6_kind_69 : decode cX6_kind 69 = .ok (.invokestatic 121, 3) := by decide +kernel
theorem dX6_kind_72 : decode cX6_kind 72 = .ok (.istore 6, 2) := by decide +kernel
theorem dX6_kind_74 : decode cX6_kind 74 = .ok (.iload 6, 2) := by decide +kernel
theorem dX6_kind_76 : decode cX6_kind 76 = .ok (.iload 4, 2) := by decide +kernel
theorem dX6_kind_78 : decode cX6_kind 78 = .ok (.if_icmp .ge 8, 3) := by decide +kernel
theorem dX6_kind_81 : decode cX6_kind 81 = .ok (.iload 5, 2) := by decide +kernel
theorem dX6_kind_83 : decode cX6_kind 83 = .ok (.goto 4, 3) := by decide +kernel
theorem dX6_kind_86 : decode cX6_kind 86 = .ok (.iload_n 3, 1) := by decide +kernel
theorem dX6_kind_87 : decode cX6_kind 87 = .ok (.istore_n 3, 1) := by decide +kernel
theorem dX6_kind_88 : decode cX6_kind 88 = .ok (.iload 6, 2) := by decide +kernel
theorem dX6_kind_90 : decode cX6_kind 90 = .ok (.iload 4, 2) := by decide +kernel
theorem dX6_kind_92 : decode cX6_kind 92 = .ok (.if_icmp .ge 8, 3) := by decide +kernel
theorem dX6_kind_95 : decode cX6_kind 95 = .ok (.iload 6, 2) := by decide +kernel
theorem dX6_kind_97 : decode cX6_kind 97 = .ok (.goto 5, 3) := by decide +kernel
theorem dX6_kind_100 : decode cX6_kind 100 = .ok (.iload 4, 2) := by decide +kernel
theorem dX6_kind_102 : decode cX6_kind 102 = .ok (.istore 4, 2) := by decide +kernel
theorem dX6_kind_104 : decode cX6_kind 104 = .ok (.iinc 5 1, 3) := by decide +kernel
theorem dX6_kind_107 : decode cX6_kind 107 = .ok (.goto (-61), 3) := by decide +kernel
theorem dX6_kind_110 : decode cX6_kind 110 = .ok (.aload_n 0, 1) := by decide +kernel
theorem dX6_kind_111 : decode cX6_kind 111 = .ok (.getfield 7, 3) := by decide +kernel
theorem dX6_kind_114 : decode cX6_kind 114 = .ok (.iload_n 1, 1) := by decide +kernel
theorem dX6_kind_115 : decode cX6_kind 115 = .ok (.iconst 0, 1) := by decide +kernel
theorem dX6_kind_116 : decode cX6_kind 116 = .ok (.invokestatic 53, 3) := by decide +kernel
theorem dX6_kind_119 : decode cX6_kind 119 = .ok (.iload_n 2, 1) := by decide +kernel
theorem dX6_kind_120 : decode cX6_kind 120 = .ok (.iastore, 1) := by decide +kernel
theorem dX6_kind_121 : decode cX6_kind 121 = .ok (.iload_n 3, 1) := by decide +kernel
theorem dX6_kind_122 : decode cX6_kind 122 = .ok (.ireturn, 1) := by decide +kernel
theorem dX6_feed_0 : decode cX6_feed 0 = .ok (.iload_n 2, 1) := by decide +kernel
theorem dX6_feed_1 : decode cX6_feed 1 = .ok (.i2l, 1) := by decide +kernel
theorem dX6_feed_2 : decode cX6_feed 2 = .ok (.lconst 1, 1) := by decide +kernel
theorem dX6_feed_3 : decode cX6_feed 3 = .ok (.ldc2_w 195, 3) := by decide +kernel
theorem dX6_feed_6 : decode cX6_feed 6 = .ok (.invokestatic 47, 3) := by decide +kernel
theorem dX6_feed_9 : decode cX6_feed 9 = .ok (.ifCond .ne 10, 3) := by decide +kernel
theorem dX6_feed_12 : decode cX6_feed 12 = .ok (.aload_n 0, 1) := by decide +kernel
theorem dX6_feed_13 : decode cX6_feed 13 = .ok (.ldc 44, 2) := by decide +kernel
theorem dX6_feed_15 : decode cX6_feed 15 = .ok (.invokevirtual 64, 3) := by decide +kernel
theorem dX6_feed_18 : decode cX6_feed 18 = .ok (.ireturn, 1) := by decide +kernel
theorem dX6_feed_19 : decode cX6_feed 19 = .ok (.aload_n 0, 1) := by decide +kernel
theorem dX6_feed_20 : decode cX6_feed 20 = .ok (.getfield 197, 3) := by decide +kernel
theorem dX6_feed_23 : decode cX6_feed 23 = .ok (.iload_n 2, 1) := by decide +kernel
theorem dX6_feed_24 : decode cX6_feed 24 = .ok (.iadd, 1) := by decide +kernel
theorem dX6_feed_25 : decode cX6_feed 25 = .ok (.bipush 120, 2) := by decide +kernel
theorem dX6_feed_27 : decode cX6_feed 27 = .ok (.if_icmp .le 10, 3) := by decide +kernel
theorem dX6_feed_30 : decode cX6_feed 30 = .ok (.aload_n 0, 1) := by decide +kernel
theorem dX6_feed_31 : decode cX6_feed 31 = .ok (.ldc 68, 2) := by decide +kernel
theorem dX6_feed_33 : decode cX6_feed 33 = .ok (.invokevirtual 64, 3) := by decide +kernel
theorem dX6_feed_36 : decode cX6_feed 36 = .ok (.ireturn, 1) := by decide +kernel
theorem dX6_feed_37 : decode cX6_feed 37 = .ok (.iload_n 2, 1) := by decide +kernel
theorem dX6_feed_38 : decode cX6_feed 38 = .ok (.iconst 1, 1) := by decide +kernel
theorem dX6_feed_39 : decode cX6_feed 39 = .ok (.isub, 1) := by decide +kernel
theorem dX6_feed_40 : decode cX6_feed 40 = .ok (.istore_n 3, 1) := by decide +kernel
theorem dX6_feed_41 : decode cX6_feed 41 = .ok (.iload_n 3, 1) := by decide +kernel
theorem dX6_feed_42 : decode cX6_feed 42 = .ok (.ifCond .lt 38, 3) := by decide +kernel
theorem dX6_feed_45 : decode cX6_feed 45 = .ok (.aload_n 0, 1) := by decide +kernel
theorem dX6_feed_46 : decode cX6_feed 46 = .ok (.getfield 28, 3) := by decide +kernel
theorem dX6_feed_49 : decode cX6_feed 49 = .ok (.aload_n 0, 1) := by decide +kernel
theorem dX6_feed_50 : decode cX6_feed 50 = .ok (.getfield 197, 3) := by decide +kernel
theorem dX6_feed_53 : decode cX6_feed 53 = .ok (.iload_n 1, 1) := by decide +kernel
theorem dX6_feed_54 : decode cX6_feed 54 = .ok (.bipush 8, 2) := by decide +kernel
theorem dX6_feed_56 : decode cX6_feed 56 = .ok (.iload_n 3, 1) := by decide +kernel
theorem dX6_feed_57 : decode cX6_feed 57 = .ok (.imul, 1) := by decide +kernel
theorem dX6_feed_58 : decode cX6_feed 58 = .ok (.ishr, 1) := by decide +kernel
theorem dX6_feed_59 : decode cX6_feed 59 = .ok (.sipush 255, 3) := by decide +kernel
theorem dX6_feed_62 : decode cX6_feed 62 = .ok (.iand, 1) := by decide +kernel
theorem dX6_feed_63 : decode cX6_feed 63 = .ok (.iastore, 1) := by decide +kernel
theorem dX6_feed_64 : decode cX6_feed 64 = .ok (.aload_n 0, 1) := by decide +kernel
theorem dX6_feed_65 : decode cX6_feed 65 = .ok (.dup, 1) := by decide +kernel
theorem dX6_feed_66 : decode cX6_feed 66 = .ok (.getfield 197, 3) := by decide +kernel
theorem dX6_feed_69 : decode cX6_feed 69 = .ok (.iconst 1, 1) := by decide +kernel
theorem dX6_feed_70 : decode cX6_feed 70 = .ok (.iadd, 1) := by decide +kernel
theorem dX6_feed_71 : decode cX6_feed 71 = .ok (.putfield 197, 3) := by decide +kernel
theorem dX6_feed_74 : decode cX6_feed 74 = .ok (.iinc 3 (-1), 3) := by decide +kernel
theorem dX6_feed_77 : decode cX6_feed 77 = .ok (.goto (-36), 3) := by decide +kernel
theorem dX6_feed_80 : decode cX6_feed 80 = .ok (.aload_n 0, 1) := by decide +kernel
theorem dX6_feed_81 : decode cX6_feed 81 = .ok (.getfield 197, 3) := by decide +kernel
theorem dX6_feed_84 : decode cX6_feed 84 = .ok (.ireturn, 1) := by decide +kernel
theorem dX6_wipe_0 : decode cX6_wipe 0 = .ok (.aload_n 0, 1) := by decide +kernel
theorem dX6_wipe_1 : decode cX6_wipe 1 = .ok (.getfield 197, 3) := by decide +kernel
theorem dX6_wipe_4 : decode cX6_wipe 4 = .ok (.istore_n 1, 1) := by decide +kernel
theorem dX6_wipe_5 : decode cX6_wipe 5 = .ok (.aload_n 0, 1) := by decide +kernel
theorem dX6_wipe_6 : decode cX6_wipe 6 = .ok (.iconst 0, 1) := by decide +kernel
theorem dX6_wipe_7 : decode cX6_wipe 7 = .ok (.putfield 197, 3) := by decide +kernel
theorem dX6_wipe_10 : decode cX6_wipe 10 = .ok (.iload_n 1, 1) := by decide +kernel
theorem dX6_wipe_11 : decode cX6_wipe 11 = .ok (.ireturn, 1) := by decide +kernel
theorem dX6_byteAt_0 : decode cX6_byteAt 0 = .ok (.iload_n 1, 1) := by decide +kernel
theorem dX6_byteAt_1 : decode cX6_byteAt 1 = .ok (.aload_n 0, 1) := by decide +kernel
theorem dX6_byteAt_2 : decode cX6_byteAt 2 = .ok (.getfield 197, 3) := by decide +kernel
theorem dX6_byteAt_5 : decode cX6_byteAt 5 = .ok (.if_icmp .ge 12, 3) := by decide +kernel
theorem dX6_byteAt_8 : decode cX6_byteAt 8 = .ok (.aload_n 0, 1) := by decide +kernel
theorem dX6_byteAt_9 : decode cX6_byteAt 9 = .ok (.getfield 28, 3) := by decide +kernel
theorem dX6_byteAt_12 : decode cX6_byteAt 12 = .ok (.iload_n 1, 1) := by decide +kernel
theorem dX6_byteAt_13 : decode cX6_byteAt 13 = .ok (.iaload, 1) := by decide +kernel
theorem dX6_byteAt_14 : decode cX6_byteAt 14 = .ok (.goto 4, 3) := by decide +kernel
theorem dX6_byteAt_17 : decode cX6_byteAt 17 = .ok (.iconst (-1), 1) := by decide +kernel
theorem dX6_byteAt_18 : decode cX6_byteAt 18 = .ok (.ireturn, 1) := by decide +kernel
theorem dX6_isLetter_0 : decode cX6_isLetter 0 = .ok (.iload_n 0, 1) := by decide +kernel
theorem dX6_isLetter_1 : decode cX6_isLetter 1 = .ok (.i2l, 1) := by decide +kernel
theorem dX6_isLetter_2 : decode cX6_isLetter 2 = .ok (.ldc2_w 200, 3) := by decide +kernel
theorem dX6_isLetter_5 : decode cX6_isLetter 5 = .ok (.ldc2_w 202, 3) := by decide +kernel
theorem dX6_isLetter_8 : decode cX6_isLetter 8 = .ok (.invokestatic 47, 3) := by decide +kernel
theorem dX6_isLetter_11 : decode cX6_isLetter 11 = .ok (.ireturn, 1) := by decide +kernel
theorem dX6_isDigit_0 : decode cX6_isDigit 0 = .ok (.iload_n 0, 1) := by decide +kernel
theorem dX6_isDigit_1 : decode cX6_isDigit 1 = .ok (.i2l, 1) := by decide +kernel
theorem dX6_isDigit_2 : decode cX6_isDigit 2 = .ok (.ldc2_w 204, 3) := by decide +kernel
theorem dX6_isDigit_5 : decode cX6_isDigit 5 = .ok (.ldc2_w 206, 3) := by decide +kernel
theorem dX6_isDigit_8 : decode cX6_isDigit 8 = .ok (.invokestatic 47, 3) := by decide +kernel
theorem dX6_isDigit_11 : decode cX6_isDigit 11 = .ok (.ireturn, 1) := by decide +kernel
theorem dX6_token_0 : decode cX6_token 0 = .ok (.aload_n 0, 1) := by decide +kernel
theorem dX6_token_1 : decode cX6_token 1 = .ok (.aload_n 0, 1) := by decide +kernel
theorem dX6_token_2 : decode cX6_token 2 = .ok (.getfield 208, 3) := by decide +kernel
theorem dX6_token_5 : decode cX6_token 5 = .ok (.putfield 211, 3) := by decide +kernel
theorem dX6_token_8 : decode cX6_token 8 = .ok (.aload_n 0, 1) := by decide +kernel
theorem dX6_token_9 : decode cX6_token 9 = .ok (.aload_n 0, 1) := by decide +kernel
theorem dX6_token_10 : decode cX6_token 10 = .ok (.getfield 211, 3) := by decide +kernel
theorem dX6_token_13 : decode cX6_token 13 = .ok (.invokevirtual 214, 3) := by decide +kernel
theorem dX6_token_16 : decode cX6_token 16 = .ok (.bipush 32, 2) := by decide +kernel
theorem dX6_token_18 : decode cX6_token 18 = .ok (.if_icmp .ne 16, 3) := by decide +kernel
theorem dX6_token_21 : decode cX6_token 21 = .ok (.aload_n 0, 1) := by decide +kernel
theorem dX6_token_22 : decode cX6_token 22 = .ok (.dup, 1) := by decide +kernel
theorem dX6_token_23 : decode cX6_token 23 = .ok (.getfield 211, 3) := by decide +kernel
theorem dX6_token_26 : decode cX6_token 26 = .ok (.iconst 1, 1) := by decide +kernel
theorem dX6_token_27 : decode cX6_token 27 = .ok (.iadd, 1) := by decide +kernel
theorem dX6_token_28 : decode cX6_token 28 = .ok (.putfield 211, 3) := by decide +kernel
theorem dX6_token_31 : decode cX6_token 31 = .ok (.goto (-23), 3) := by decide +kernel
theorem dX6_token_34 : decode cX6_token 34 = .ok (.aload_n 0, 1) := by decide +kernel
theorem dX6_token_35 : decode cX6_token 35 = .ok (.aload_n 0, 1) := by decide +kernel
theorem dX6_token_36 : decode cX6_token 36 = .ok (.getfield 211, 3) := by decide +kernel
theorem dX6_token_39 : decode cX6_token 39 = .ok (.invokevirtual 214, 3) := by decide +kernel
theorem dX6_token_42 : decode cX6_token 42 = .ok (.invokestatic 217, 3) := by decide +kernel
theorem dX6_token_45 : decode cX6_token 45 = .ok (.istore_n 1, 1) := by decide +kernel
theorem dX6_token_46 : decode cX6_token 46 = .ok (.aload_n 0, 1) := by decide +kernel
theorem dX6_token_47 : decode cX6_token 47 = .ok (.aload_n 0, 1) := by decide +kernel
theorem dX6_token_48 : decode cX6_token 48 = .ok (.getfield 211, 3) := by decide +kernel
theorem dX6_token_51 : decode cX6_token 51 = .ok (.invokevirtual 214, 3) := by decide +kernel
theorem dX6_token_54 : decode cX6_token 54 = .ok (.invokestatic 220, 3) := by decide +kernel
theorem dX6_token_57 : decode cX6_token 57 = .ok (.istore_n 2, 1) := by decide +kernel
theorem dX6_token_58 : decode cX6_token 58 = .ok (.aload_n 0, 1) := by decide +kernel
theorem dX6_token_59 : decode cX6_token 59 = .ok (.aload_n 0, 1) := by decide +kernel
theorem dX6_token_60 : decode cX6_token 60 = .ok (.getfield 211, 3) := by decide +kernel
theorem dX6_token_63 : decode cX6_token 63 = .ok (.aload_n 0, 1) := by decide +kernel
theorem dX6_token_64 : decode cX6_token 64 = .ok (.getfield 197, 3) := by decide +kernel
theorem dX6_token_67 : decode cX6_token 67 = .ok (.if_icmp .ge 12, 3) := by decide +kernel
theorem dX6_token_70 : decode cX6_token 70 = .ok (.aload_n 0, 1) := by decide +kernel
theorem dX6_token_71 : decode cX6_token 71 = .ok (.getfield 211, 3) := by decide +kernel
theorem dX6_token_74 : decode cX6_token 74 = .ok (.iconst 1, 1) := by decide +kernel
theorem dX6_token_75 : decode cX6_token 75 = .ok (.iadd, 1) := by decide +kernel
theorem dX6_token_76 : decode cX6_token 76 = .ok (.goto 7, 3) := by decide +kernel
theorem dX6_token_79 : decode cX6_token 79 = .ok (.aload_n 0, 1) := by decide +kernel
theorem dX6_token_80 : decode cX6_token 80 = .ok (.getfield 211, 3) := by decide +kernel
theorem dX6_token_83 : decode cX6_token 83 = .ok (.putfield 208, 3) := by decide +kernel
theorem dX6_token_86 : decode cX6_token 86 = .ok (.iload_n 1, 1) := by decide +kernel
theorem dX6_token_87 : decode cX6_token 87 = .ok (.ifCond .eq 17, 3) := by decide +kernel
theorem dX6_token_90 : decode cX6_token 90 = .ok (.aload_n 0, 1) := by decide +kernel
theorem dX6_token_91 : decode cX6_token 91 = .ok (.aload_n 0, 1) := by decide +kernel
theorem dX6_token_92 : decode cX6_token 92 = .ok (.getfield 208, 3) := by decide +kernel
theorem dX6_token_95 : decode cX6_token 95 = .ok (.invokevirtual 214, 3) := by decide +kernel
theorem dX6_token_98 : decode cX6_token 98 = .ok (.invokestatic 217, 3) := by decide +kernel
theorem dX6_token_101 : decode cX6_token 101 = .ok (.ifCond .ne 21, 3) := by decide +kernel
theorem dX6_token_104 : decode cX6_token 104 = .ok (.iload_n 2, 1) := by decide +kernel
theorem dX6_token_105 : decode cX6_token 105 = .ok (.ifCond .eq 30, 3) := by decide +kernel
theorem dX6_token_108 : decode cX6_token 108 = .ok (.aload_n 0, 1) := by decide +kernel
theorem dX6_token_109 : decode cX6_token 109 = .ok (.aload_n 0, 1) := by decide +kernel
theorem dX6_token_110 : decode cX6_token 110 = .ok (.getfield 208, 3) := by decide +kernel
theorem dX6_token_113 : decode cX6_token 113 = .ok (.invokevirtual 214, 3) := by decide +kernel
theorem dX6_token_116 : decode cX6_token 116 = .ok (.invokestatic 220, 3) := by decide +kernel
theorem dX6_token_119 : decode cX6_token 119 = .ok (.ifCond .eq 16, 3) := by decide +kernel
theorem dX6_token_122 : decode cX6_token 122 = .ok (.aload_n 0, 1) := by decide +kernel
theorem dX6_token_123 : decode cX6_token 123 = .ok (.dup, 1) := by decide +kernel
theorem dX6_token_124 : decode cX6_token 124 = .ok (.getfield 208, 3) := by decide +kernel
theorem dX6_token_127 : decode cX6_token 127 = .ok (.iconst 1, 1) := by decide +kernel
theorem dX6_token_128 : decode cX6_token 128 = .ok (.iadd, 1) := by decide +kernel
theorem dX6_token_129 : decode cX6_token 129 = .ok (.putfield 208, 3) := by decide +kernel
theorem dX6_token_132 : decode cX6_token 132 = .ok (.goto (-46), 3) := by decide +kernel
theorem dX6_token_135 : decode cX6_token 135 = .ok (.return_, 1) := by decide +kernel
theorem dX6_must_0 : decode cX6_must 0 = .ok (.aload_n 0, 1) := by decide +kernel
theorem dX6_must_1 : decode cX6_must 1 = .ok (.aload_n 0, 1) := by decide +kernel
theorem dX6_must_2 : decode cX6_must 2 = .ok (.getfield 223, 3) := by decide +kernel
theorem dX6_must_5 : decode cX6_must 5 = .ok (.ifCond .ne 7, 3) := by decide +kernel
theorem dX6_must_8 : decode cX6_must 8 = .ok (.iload_n 1, 1) := by decide +kernel
theorem dX6_must_9 : decode cX6_must 9 = .ok (.ifCond .ne 7, 3) := by decide +kernel
theorem dX6_must_12 : decode cX6_must 12 = .ok (.iconst 1, 1) := by decide +kernel
theorem dX6_must_13 : decode cX6_must 13 = .ok (.goto 4, 3) := by decide +kernel
theorem dX6_must_16 : decode cX6_must 16 = .ok (.iconst 0, 1) := by decide +kernel
theorem dX6_must_17 : decode cX6_must 17 = .ok (.putfield 223, 3) := by decide +kernel
theorem dX6_must_20 : decode cX6_must 20 = .ok (.aload_n 0, 1) := by decide +kernel
theorem dX6_must_21 : decode cX6_must 21 = .ok (.getfield 223, 3) := by decide +kernel
theorem dX6_must_24 : decode cX6_must 24 = .ok (.ifCond .ne 7, 3) := by decide +kernel
theorem dX6_must_27 : decode cX6_must 27 = .ok (.aload_n 0, 1) := by decide +kernel
theorem dX6_must_28 : decode cX6_must 28 = .ok (.invokevirtual 227, 3) := by decide +kernel
theorem dX6_must_31 : decode cX6_must 31 = .ok (.return_, 1) := by decide +kernel
theorem dX6_word_0 : decode cX6_word 0 = .ok (.lconst 0, 1) := by decide +kernel
theorem dX6_word_1 : decode cX6_word 1 = .ok (.lstore_n 1, 1) := by decide +kernel
theorem dX6_word_2 : decode cX6_word 2 = .ok (.aload_n 0, 1) := by decide +kernel
theorem dX6_word_3 : decode cX6_word 3 = .ok (.getfield 211, 3) := by decide +kernel
theorem dX6_word_6 : decode cX6_word 6 = .ok (.istore_n 3, 1) := by decide +kernel
theorem dX6_word_7 : decode cX6_word 7 = .ok (.iload_n 3, 1) := by decide +kernel
theorem dX6_word_8 : decode cX6_word 8 = .ok (.aload_n 0, 1) := by decide +kernel
theorem dX6_word_9 : decode cX6_word 9 = .ok (.getfield 208, 3) := by decide +kernel
theorem dX6_word_12 : decode cX6_word 12 = .ok (.if_icmp .ge 38, 3) := by decide +kernel
theorem dX6_word_15 : decode cX6_word 15 = .ok (.lload_n 1, 1) := by decide +kernel
theorem dX6_word_16 : decode cX6_word 16 = .ok (.ldc2_w 230, 3) := by decide +kernel
theorem dX6_word_19 : decode cX6_word 19 = .ok (.lcmp, 1) := by decide +kernel
theorem dX6_word_20 : decode cX6_word 20 = .ok (.ifCond .le 7, 3) := by decide +kernel
theorem dX6_word_23 : decode cX6_word 23 = .ok (.lload_n 1, 1) := by decide +kernel
theorem dX6_word_24 : decode cX6_word 24 = .ok (.goto 19, 3) := by decide +kernel
theorem dX6_word_27 : decode cX6_word 27 = .ok (.ldc2_w 232, 3) := by decide +kernel
theorem dX6_word_30 : decode cX6_word 30 = .ok (.lload_n 1, 1) := by decide +kernel
theorem dX6_word_31 : decode cX6_word 31 = .ok (.lmul, 1) := by decide +kernel
theorem dX6_word_32 : decode cX6_word 32 = .ok (.aload_n 0, 1) := by decide +kernel
theorem dX6_word_33 : decode cX6_word 33 = .ok (.getfield 28, 3) := by decide +kernel
theorem dX6_word_36 : decode cX6_word 36 = .ok (.iload_n 3, 1) := by decide +kernel
theorem dX6_word_37 : decode cX6_word 37 = .ok (.iaload, 1) := by decide +kernel
theorem dX6_word_38 : decode cX6_word 38 = .ok (.bipush 96, 2) := by decide +kernel
theorem dX6_word_40 : decode cX6_word 40 = .ok (.isub, 1) := by decide +kernel
theorem dX6_word_41 : decode cX6_word 41 = .ok (.i2l, 1) := by decide +kernel
theorem dX6_word_42 : decode cX6_word 42 = .ok (.ladd, 1) := by decide +kernel
theorem dX6_word_43 : decode cX6_word 43 = .ok (.lstore_n 1, 1) := by decide +kernel
theorem dX6_word_44 : decode cX6_word 44 = .ok (.iinc 3 1, 3) := by decide +kernel
theorem dX6_word_47 : decode cX6_word 47 = .ok (.goto (-40), 3) := by decide +kernel
theorem dX6_word_50 : decode cX6_word 50 = .ok (.aload_n 0, 1) := by decide +kernel
theorem dX6_word_51 : decode cX6_word 51 = .ok (.getfield 223, 3) := by decide +kernel
theorem dX6_word_54 : decode cX6_word 54 = .ok (.ifCond .ne 17, 3) := by decide +kernel
theorem dX6_word_57 : decode cX6_word 57 = .ok (.aload_n 0, 1) := by decide +kernel
theorem dX6_word_58 : decode cX6_word 58 = .ok (.aload_n 0, 1) := by decide +kernel
theorem dX6_word_59 : decode cX6_word 59 = .ok (.getfield 211, 3) := by decide +kernel
theorem dX6_word_62 : decode cX6_word 62 = .ok (.invokevirtual 214, 3) := by decide +kernel
theorem dX6_word_65 : decode cX6_word 65 = .ok (.invokestatic 217, 3) := by decide +kernel
theorem dX6_word_68 : decode cX6_word 68 = .ok (.ifCond .ne 7, 3) := by decide +kernel
theorem dX6_word_71 : decode cX6_word 71 = .ok (.lconst 0, 1) := by decide +kernel
theorem dX6_word_72 : decode cX6_word 72 = .ok (.goto 4, 3) := by decide +kernel
theorem dX6_word_75 : decode cX6_word 75 = .ok (.lload_n 1, 1) := by decide +kernel
theorem dX6_word_76 : decode cX6_word 76 = .ok (.lreturn, 1) := by decide +kernel
theorem dX6_number_0 : decode cX6_number 0 = .ok (.aload_n 0, 1) := by decide +kernel
theorem dX6_number_1 : decode cX6_number 1 = .ok (.getfield 223, 3) := by decide +kernel
theorem dX6_number_4 : decode cX6_number 4 = .ok (.ifCond .eq 4, 3) := by decide +kernel
theorem dX6_number_7 : decode cX6_number 7 = .ok (.return_, 1) := by decide +kernel
theorem dX6_number_8 : decode cX6_number 8 = .ok (.aload_n 0, 1) := by decide +kernel
theorem dX6_number_9 : decode cX6_number 9 = .ok (.aload_n 0, 1) := by decide +kernel
theorem dX6_number_10 : decode cX6_number 10 = .ok (.getfield 211, 3) := by decide +kernel
theorem dX6_number_13 : decode cX6_number 13 = .ok (.invokevirtual 214, 3) := by decide +kernel
theorem dX6_number_16 : decode cX6_number 16 = .ok (.invokestatic 220, 3) := by decide +kernel
theorem dX6_number_19 : decode cX6_number 19 = .ok (.istore_n 3, 1) := by decide +kernel
theorem dX6_number_20 : decode cX6_number 20 = .ok (.iconst 0, 1) := by decide +kernel
theorem dX6_number_21 : decode cX6_number 21 = .ok (.istore 4, 2) := by decide +kernel
theorem dX6_number_23 : decode cX6_number 23 = .ok (.aload_n 0, 1) := by decide +kernel
theorem dX6_number_24 : decode cX6_number 24 = .ok (.getfield 211, 3) := by decide +kernel
theorem dX6_number_27 : decode cX6_number 27 = .ok (.istore 5, 2) := by decide +kernel
theorem dX6_number_29 : decode cX6_number 29 = .ok (.iload 5, 2) := by decide +kernel
theorem dX6_number_31 : decode cX6_number 31 = .ok (.aload_n 0, 1) := by decide +kernel
theorem dX6_number_32 : decode cX6_number 32 = .ok (.getfield 208, 3) := by decide +kernel
theorem dX6_number_35 : decode cX6_number 35 = .ok (.if_icmp .ge 44, 3) := by decide +kernel
theorem dX6_number_38 : decode cX6_number 38 = .ok (.iload_n 3, 1) := by decide +kernel
theorem dX6_number_39 : decode cX6_number 39 = .ok (.ifCond .eq 40, 3) := by decide +kernel
theorem dX6_number_42 : decode cX6_number 42 = .ok (.iload 4, 2) := by decide +kernel
theorem dX6_number_44 : decode cX6_number 44 = .ok (.sipush 999, 3) := by decide +kernel
theorem dX6_number_47 : decode cX6_number 47 = .ok (.if_icmp .le 8, 3) := by decide +kernel
theorem dX6_number_50 : decode cX6_number 50 = .ok (.iload 4, 2) := by decide +kernel
theorem dX6_number_52 : decode cX6_number 52 = .ok (.goto 19, 3) := by decide +kernel
theorem dX6_number_55 : decode cX6_number 55 = .ok (.bipush 10, 2) := by decide +kernel
theorem dX6_number_57 : decode cX6_number 57 = .ok (.iload 4, 2) := by decide +kernel
theorem dX6_number_59 : decode cX6_number 59 = .ok (.imul, 1) := by decide +kernel
theorem dX6_number_60 : decode cX6_number 60 = .ok (.aload_n 0, 1) := by decide +kernel
theorem dX6_number_61 : decode cX6_number 61 = .ok (.getfield 28, 3) := by decide +kernel
theorem dX6_number_64 : decode cX6_number 64 = .ok (.iload 5, 2) := by decide +kernel
theorem dX6_number_66 : decode cX6_number 66 = .ok (.iaload, 1) := by decide +kernel
theorem dX6_number_67 : decode cX6_number 67 = .ok (.iadd, 1) := by decide +kernel
theorem dX6_number_68 : decode cX6_number 68 = .ok (.bipush 48, 2) := by decide +kernel
theorem dX6_number_70 : decode cX6_number 70 = .ok (.isub, 1) := by decide +kernel
theorem dX6_number_71 : decode cX6_number 71 = .ok (.istore 4, 2) := by decide +kernel
theorem dX6_number_73 : decode cX6_number 73 = .ok (.iinc 5 1, 3) := by decide +kernel
theorem dX6_number_76 : decode cX6_number 76 = .ok (.goto (-47), 3) := by decide +kernel
theorem dX6_number_79 : decode cX6_number 79 = .ok (.aload_n 0, 1) := by decide +kernel
theorem dX6_number_80 : decode cX6_number 80 = .ok (.iload 4, 2) := by decide +kernel
theorem dX6_number_82 : decode cX6_number 82 = .ok (.putfield 234, 3) := by decide +kernel
theorem dX6_number_85 : decode cX6_number 85 = .ok (.aload_n 0, 1) := by decide +kernel
theorem dX6_number_86 : decode cX6_number 86 = .ok (.iload_n 3, 1) := by decide +kernel
theorem dX6_number_87 : decode cX6_number 87 = .ok (.ifCond .eq 20, 3) := by decide +kernel
theorem dX6_number_90 : decode cX6_number 90 = .ok (.iload 4, 2) := by decide +kernel
theorem dX6_number_92 : decode cX6_number 92 = .ok (.i2l, 1) := by decide +kernel
theorem dX6_number_93 : decode cX6_number 93 = .ok (.iload_n 1, 1) := by decide +kernel
theorem dX6_number_94 : decode cX6_number 94 = .ok (.i2l, 1) := by decide +kernel
theorem dX6_number_95 : decode cX6_number 95 = .ok (.iload_n 2, 1) := by decide +kernel
theorem dX6_number_96 : decode cX6_number 96 = .ok (.i2l, 1) := by decide +kernel
theorem dX6_number_97 : decode cX6_number 97 = .ok (.invokestatic 47, 3) := by decide +kernel
theorem dX6_number_100 : decode cX6_number 100 = .ok (.ifCond .eq 7, 3) := by decide +kernel
theorem dX6_number_103 : decode cX6_number 103 = .ok (.iconst 1, 1) := by decide +kernel
theorem dX6_number_104 : decode cX6_number 104 = .ok (.goto 4, 3) := by decide +kernel
theorem dX6_number_107 : decode cX6_number 107 = .ok (.iconst 0, 1) := by decide +kernel
theorem dX6_number_108 : decode cX6_number 108 = .ok (.invokevirtual 237, 3) := by decide +kernel
theorem dX6_number_111 : decode cX6_number 111 = .ok (.return_, 1) := by decide +kernel
theorem dX6_kindHere_0 : decode cX6_kindHere 0 = .ok (.aload_n 0, 1) := by decide +kernel
theorem dX6_kindHere_1 : decode cX6_kindHere 1 = .ok (.invokevirtual 241, 3) := by decide +kernel
theorem dX6_kindHere_4 : decode cX6_kindHere 4 = .ok (.lstore_n 1, 1) := by decide +kernel
theorem dX6_kindHere_5 : decode cX6_kindHere 5 = .ok (.lload_n 1, 1) := by decide +kernel
theorem dX6_kindHere_6 : decode cX6_kindHere 6 = .ok (.ldc2_w 245, 3) := by decide +kernel
theorem dX6_kindHere_9 : decode cX6_kindHere 9 = .ok (.lcmp, 1) := by decide +kernel
theorem dX6_kindHere_10 : decode cX6_kindHere 10 = .ok (.ifCond .ne 7, 3) := by decide +kernel
theorem dX6_kindHere_13 : decode cX6_kindHere 13 = .ok (.iconst 0, 1) := by decide +kernel
theorem dX6_kindHere_14 : decode cX6_kindHere 14 = .ok (.goto 64, 3) := by decide +kernel
theorem dX6_kindHere_17 : decode cX6_kindHere 17 = .ok (.lload_n 1, 1) := by decide +kernel
theorem dX6_kindHere_18 : decode cX6_kindHere 18 = .ok (.ldc2_w 247, 3) := by decide +kernel
theorem dX6_kindHere_21 : decode cX6_kindHere 21 = .ok (.lcmp, 1) := by decide +kernel
theorem dX6_kindHere_22 : decode cX6_kindHere 22 = .ok (.ifCond .ne 7, 3) := by decide +kernel
theorem dX6_kindHere_25 : decode cX6_kindHere 25 = .ok (.iconst 1, 1) := by decide +kernel
theorem dX6_kindHere_26 : decode cX6_kindHere 26 = .ok (.goto 52, 3) := by decide +kernel
theorem dX6_kindHere_29 : decode cX6_kindHere 29 = .ok (.lload_n 1, 1) := by decide +kernel
theorem dX6_kindHere_30 : decode cX6_kindHere 30 = .ok (.ldc2_w 249, 3) := by decide +kernel
theorem dX6_kindHere_33 : decode cX6_kindHere 33 = .ok (.lcmp, 1) := by decide +kernel
theorem dX6_kindHere_34 : decode cX6_kindHere 34 = .ok (.ifCond .ne 7, 3) := by decide +kernel
theorem dX6_kindHere_37 : decode cX6_kindHere 37 = .ok (.iconst 2, 1) := by decide +kernel
theorem dX6_kindHere_38 : decode cX6_kindHere 38 = .ok (.goto 40, 3) := by decide +kernel
theorem dX6_kindHere_41 : decode cX6_kindHere 41 = .ok (.lload_n 1, 1) := by decide +kernel
theorem dX6_kindHere_42 : decode cX6_kindHere 42 = .ok (.ldc2_w 251, 3) := by decide +kernel
theorem dX6_kindHere_45 : decode cX6_kindHere 45 = .ok (.lcmp, 1) := by decide +kernel
theorem dX6_kindHere_46 : decode cX6_kindHere 46 = .ok (.ifCond .ne 7, 3) := by decide +kernel
theorem dX6_kindHere_49 : decode cX6_kindHere 49 = .ok (.iconst 3, 1) := by decide +kernel
theorem dX6_kindHere_50 : decode cX6_kindHere 50 = .ok (.goto 28, 3) := by decide +kernel
theorem dX6_kindHere_53 : decode cX6_kindHere 53 = .ok (.lload_n 1, 1) := by decide +kernel
theorem dX6_kindHere_54 : decode cX6_kindHere 54 = .ok (.ldc2_w 253, 3) := by decide +kernel
theorem dX6_kindHere_57 : decode cX6_kindHere 57 = .ok (.lcmp, 1) := by decide +kernel
theorem dX6_kindHere_58 : decode cX6_kindHere 58 = .ok (.ifCond .ne 7, 3) := by decide +kernel
theorem dX6_kindHere_61 : decode cX6_kindHere 61 = .ok (.iconst 4, 1) := by decide +kernel
theorem dX6_kindHere_62 : decode cX6_kindHere 62 = .ok (.goto 16, 3) := by decide +kernel
theorem dX6_kindHere_65 : decode cX6_kindHere 65 = .ok (.lload_n 1, 1) := by decide +kernel
theorem dX6_kindHere_66 : decode cX6_kindHere 66 = .ok (.ldc2_w 255, 3) := by decide +kernel
theorem dX6_kindHere_69 : decode cX6_kindHere 69 = .ok (.lcmp, 1) := by decide +kernel
theorem dX6_kindHere_70 : decode cX6_kindHere 70 = .ok (.ifCond .ne 7, 3) := by decide +kernel
theorem dX6_kindHere_73 : decode cX6_kindHere 73 = .ok (.iconst 5, 1) := by decide +kernel
theorem dX6_kindHere_74 : decode cX6_kindHere 74 = .ok (.goto 4, 3) := by decide +kernel
theorem dX6_kindHere_77 : decode cX6_kindHere 77 = .ok (.iconst (-1), 1) := by decide +kernel
theorem dX6_kindHere_78 : decode cX6_kindHere 78 = .ok (.ireturn, 1) := by decide +kernel
theorem dX6_atItem_0 : decode cX6_atItem 0 = .ok (.aload_n 0, 1) := by decide +kernel
theorem dX6_atItem_1 : decode cX6_atItem 1 = .ok (.iconst 1, 1) := by decide +kernel
theorem dX6_atItem_2 : decode cX6_atItem 2 = .ok (.invokevirtual 237, 3) := by decide +kernel
theorem dX6_atItem_5 : decode cX6_atItem 5 = .ok (.aload_n 0, 1) := by decide +kernel
theorem dX6_atItem_6 : decode cX6_atItem 6 = .ok (.invokevirtual 257, 3) := by decide +kernel
theorem dX6_atItem_9 : decode cX6_atItem 9 = .ok (.istore_n 2, 1) := by decide +kernel
theorem dX6_atItem_10 : decode cX6_atItem 10 = .ok (.aload_n 0, 1) := by decide +kernel
theorem dX6_atItem_11 : decode cX6_atItem 11 = .ok (.aload_n 0, 1) := by decide +kernel
theorem dX6_atItem_12 : decode cX6_atItem 12 = .ok (.iload_n 2, 1) := by decide +kernel
theorem dX6_atItem_13 : decode cX6_atItem 13 = .ok (.invokevirtual 109, 3) := by decide +kernel
theorem dX6_atItem_16 : decode cX6_atItem 16 = .ok (.invokevirtual 237, 3) := by decide +kernel
theorem dX6_atItem_19 : decode cX6_atItem 19 = .ok (.aload_n 0, 1) := by decide +kernel
theorem dX6_atItem_20 : decode cX6_atItem 20 = .ok (.getfield 7, 3) := by decide +kernel
theorem dX6_atItem_23 : decode cX6_atItem 23 = .ok (.iload_n 1, 1) := by decide +kernel
theorem dX6_atItem_24 : decode cX6_atItem 24 = .ok (.iconst 1, 1) := by decide +kernel
theorem dX6_atItem_25 : decode cX6_atItem 25 = .ok (.invokestatic 53, 3) := by decide +kernel
theorem dX6_atItem_28 : decode cX6_atItem 28 = .ok (.aload_n 0, 1) := by decide +kernel
theorem dX6_atItem_29 : decode cX6_atItem 29 = .ok (.getfield 223, 3) := by decide +kernel
theorem dX6_atItem_32 : decode cX6_atItem 32 = .ok (.ifCond .eq 7, 3) := by decide +kernel
theorem dX6_atItem_35 : decode cX6_atItem 35 = .ok (.iconst (-1), 1) := by decide +kernel
theorem dX6_atItem_36 : decode cX6_atItem 36 = .ok (.goto 4, 3) := by decide +kernel
theorem dX6_atItem_39 : decode cX6_atItem 39 = .ok (.iload_n 2, 1) := by decide +kernel
theorem dX6_atItem_40 : decode cX6_atItem 40 = .ok (.iastore, 1) := by decide +kernel
theorem dX6_atItem_41 : decode cX6_atItem 41 = .ok (.return_, 1) := by decide +kernel
theorem dX6_numberHere_0 : decode cX6_numberHere 0 = .ok (.aload_n 0, 1) := by decide +kernel
theorem dX6_numberHere_1 : decode cX6_numberHere 1 = .ok (.getfield 223, 3) := by decide +kernel
theorem dX6_numberHere_4 : decode cX6_numberHere 4 = .ok (.ifCond .ne 21, 3) := by decide +kernel
theorem dX6_numberHere_7 : decode cX6_numberHere 7 = .ok (.aload_n 0, 1) := by decide +kernel
theorem dX6_numberHere_8 : decode cX6_numberHere 8 = .ok (.aload_n 0, 1) := by decide +kernel
theorem dX6_numberHere_9 : decode cX6_numberHere 9 = .ok (.getfield 211, 3) := by decide +kernel
theorem dX6_numberHere_12 : decode cX6_numberHere 12 = .ok (.invokevirtual 214, 3) := by decide +kernel
theorem dX6_numberHere_15 : decode cX6_numberHere 15 = .ok (.invokestatic 220, 3) := by decide +kernel
theorem dX6_numberHere_18 : decode cX6_numberHere 18 = .ok (.ifCond .eq 7, 3) := by decide +kernel
theorem dX6_numberHere_21 : decode cX6_numberHere 21 = .ok (.iconst 0, 1) := by decide +kernel
theorem dX6_numberHere_22 : decode cX6_numberHere 22 = .ok (.goto 4, 3) := by decide +kernel
theorem dX6_numberHere_25 : decode cX6_numberHere 25 = .ok (.iconst (-1), 1) := by decide +kernel
theorem dX6_numberHere_26 : decode cX6_numberHere 26 = .ok (.istore_n 1, 1) := by decide +kernel
theorem dX6_numberHere_27 : decode cX6_numberHere 27 = .ok (.aload_n 0, 1) := by decide +kernel
theorem dX6_numberHere_28 : decode cX6_numberHere 28 = .ok (.getfield 211, 3) := by decide +kernel
theorem dX6_numberHere_31 : decode cX6_numberHere 31 = .ok (.istore_n 2, 1) := by decide +kernel
theorem dX6_numberHere_32 : decode cX6_numberHere 32 = .ok (.iload_n 2, 1) := by decide +kernel
theorem dX6_numberHere_33 : decode cX6_numberHere 33 = .ok (.aload_n 0, 1) := by decide +kernel
theorem dX6_numberHere_34 : decode cX6_numberHere 34 = .ok (.getfield 208, 3) := by decide +kernel
theorem dX6_numberHere_37 : decode cX6_numberHere 37 = .ok (.if_icmp .ge 41, 3) := by decide +kernel
theorem dX6_numberHere_40 : decode cX6_numberHere 40 = .ok (.iload_n 1, 1) := by decide +kernel
theorem dX6_numberHere_41 : decode cX6_numberHere 41 = .ok (.ifCond .lt 37, 3) := by decide +kernel
theorem dX6_numberHere_44 : decode cX6_numberHere 44 = .ok (.bipush 10, 2) := by decide +kernel
theorem dX6_numberHere_46 : decode cX6_numberHere 46 = .ok (.iload_n 1, 1) := by decide +kernel
theorem dX6_numberHere_47 : decode cX6_numberHere 47 = .ok (.imul, 1) := by decide +kernel
theorem dX6_numberHere_48 : decode cX6_numberHere 48 = .ok (.aload_n 0, 1) := by decide +kernel
theorem dX6_numberHere_49 : decode cX6_numberHere 49 = .ok (.getfield 28, 3) := by decide +kernel
theorem dX6_numberHere_52 : decode cX6_numberHere 52 = .ok (.iload_n 2, 1) := by decide +kernel
theorem dX6_numberHere_53 : decode cX6_numberHere 53 = .ok (.iaload, 1) := by decide +kernel
theorem dX6_numberHere_54 : decode cX6_numberHere 54 = .ok (.iadd, 1) := by decide +kernel
theorem dX6_numberHere_55 : decode cX6_numberHere 55 = .ok (.bipush 48, 2) := by decide +kernel
theorem dX6_numberHere_57 : decode cX6_numberHere 57 = .ok (.isub, 1) := by decide +kernel
theorem dX6_numberHere_58 : decode cX6_numberHere 58 = .ok (.istore_n 1, 1) := by decide +kernel
theorem dX6_numberHere_59 : decode cX6_numberHere 59 = .ok (.iload_n 1, 1) := by decide +kernel
theorem dX6_numberHere_60 : decode cX6_numberHere 60 = .ok (.sipush 999, 3) := by decide +kernel
theorem dX6_numberHere_63 : decode cX6_numberHere 63 = .ok (.if_icmp .le 7, 3) := by decide +kernel
theorem dX6_numberHere_66 : decode cX6_numberHere 66 = .ok (.iconst (-1), 1) := by decide +kernel
theorem dX6_numberHere_67 : decode cX6_numberHere 67 = .ok (.goto 4, 3) := by decide +kernel
theorem dX6_numberHere_70 : decode cX6_numberHere 70 = .ok (.iload_n 1, 1) := by decide +kernel
theorem dX6_numberHere_71 : decode cX6_numberHere 71 = .ok (.istore_n 1, 1) := by decide +kernel
theorem dX6_numberHere_72 : decode cX6_numberHere 72 = .ok (.iinc 2 1, 3) := by decide +kernel
theorem dX6_numberHere_75 : decode cX6_numberHere 75 = .ok (.goto (-43), 3) := by decide +kernel
theorem dX6_numberHere_78 : decode cX6_numberHere 78 = .ok (.iload_n 1, 1) := by decide +kernel
theorem dX6_numberHere_79 : decode cX6_numberHere 79 = .ok (.ireturn, 1) := by decide +kernel
theorem dX6_hangerItem_0 : decode cX6_hangerItem 0 = .ok (.aload_n 0, 1) := by decide +kernel
theorem dX6_hangerItem_1 : decode cX6_hangerItem 1 = .ok (.aload_n 0, 1) := by decide +kernel
theorem dX6_hangerItem_2 : decode cX6_hangerItem 2 = .ok (.getfield 7, 3) := by decide +kernel
theorem dX6_hangerItem_5 : decode cX6_hangerItem 5 = .ok (.iconst 0, 1) := by decide +kernel
theorem dX6_hangerItem_6 : decode cX6_hangerItem 6 = .ok (.iaload, 1) := by decide +kernel
theorem dX6_hangerItem_7 : decode cX6_hangerItem 7 = .ok (.bipush 12, 2) := by decide +kernel
theorem dX6_hangerItem_9 : decode cX6_hangerItem 9 = .ok (.if_icmp .ge 7, 3) := by decide +kernel
theorem dX6_hangerItem_12 : decode cX6_hangerItem 12 = .ok (.iconst 1, 1) := by decide +kernel
theorem dX6_hangerItem_13 : decode cX6_hangerItem 13 = .ok (.goto 4, 3) := by decide +kernel
theorem dX6_hangerItem_16 : decode cX6_hangerItem 16 = .ok (.iconst 0, 1) := by decide +kernel
theorem dX6_hangerItem_17 : decode cX6_hangerItem 17 = .ok (.invokevirtual 237, 3) := by decide +kernel
theorem dX6_hangerItem_20 : decode cX6_hangerItem 20 = .ok (.aload_n 0, 1) := by decide +kernel
theorem dX6_hangerItem_21 : decode cX6_hangerItem 21 = .ok (.getfield 223, 3) := by decide +kernel
theorem dX6_hangerItem_24 : decode cX6_hangerItem 24 = .ok (.ifCond .eq 4, 3) := by decide +kernel
theorem dX6_hangerItem_27 : decode cX6_hangerItem 27 = .ok (.return_, 1) := by decide +kernel
theorem dX6_hangerItem_28 : decode cX6_hangerItem 28 = .ok (.aload_n 0, 1) := by decide +kernel
theorem dX6_hangerItem_29 : decode cX6_hangerItem 29 = .ok (.iload_n 1, 1) := by decide +kernel
theorem dX6_hangerItem_30 : decode cX6_hangerItem 30 = .ok (.invokevirtual 69, 3) := by decide +kernel
theorem dX6_hangerItem_33 : decode cX6_hangerItem 33 = .ok (.istore_n 2, 1) := by decide +kernel
theorem dX6_hangerItem_34 : decode cX6_hangerItem 34 = .ok (.aload_n 0, 1) := by decide +kernel
theorem dX6_hangerItem_35 : decode cX6_hangerItem 35 = .ok (.invokevirtual 241, 3) := by decide +kernel
theorem dX6_hangerItem_38 : decode cX6_hangerItem 38 = .ok (.ldc2_w 260, 3) := by decide +kernel
theorem dX6_hangerItem_41 : decode cX6_hangerItem 41 = .ok (.lcmp, 1) := by decide +kernel
theorem dX6_hangerItem_42 : decode cX6_hangerItem 42 = .ok (.ifCond .ne 8, 3) := by decide +kernel
theorem dX6_hangerItem_45 : decode cX6_hangerItem 45 = .ok (.aload_n 0, 1) := by decide +kernel
theorem dX6_hangerItem_46 : decode cX6_hangerItem 46 = .ok (.iload_n 2, 1) := by decide +kernel
theorem dX6_hangerItem_47 : decode cX6_hangerItem 47 = .ok (.invokevirtual 262, 3) := by decide +kernel
theorem dX6_hangerItem_50 : decode cX6_hangerItem 50 = .ok (.aload_n 0, 1) := by decide +kernel
theorem dX6_hangerItem_51 : decode cX6_hangerItem 51 = .ok (.invokevirtual 241, 3) := by decide +kernel
theorem dX6_hangerItem_54 : decode cX6_hangerItem 54 = .ok (.ldc2_w 265, 3) := by decide +kernel
theorem dX6_hangerItem_57 : decode cX6_hangerItem 57 = .ok (.lcmp, 1) := by decide +kernel
theorem dX6_hangerItem_58 : decode cX6_hangerItem 58 = .ok (.ifCond .ne 19, 3) := by decide +kernel
theorem dX6_hangerItem_61 : decode cX6_hangerItem 61 = .ok (.aload_n 0, 1) := by decide +kernel
theorem dX6_hangerItem_62 : decode cX6_hangerItem 62 = .ok (.iconst 1, 1) := by decide +kernel
theorem dX6_hangerItem_63 : decode cX6_hangerItem 63 = .ok (.invokevirtual 237, 3) := by decide +kernel
theorem dX6_hangerItem_66 : decode cX6_hangerItem 66 = .ok (.aload_n 0, 1) := by decide +kernel
theorem dX6_hangerItem_67 : decode cX6_hangerItem 67 = .ok (.getfield 7, 3) := by decide +kernel
theorem dX6_hangerItem_70 : decode cX6_hangerItem 70 = .ok (.iload_n 2, 1) := by decide +kernel
theorem dX6_hangerItem_71 : decode cX6_hangerItem 71 = .ok (.iconst 2, 1) := by decide +kernel
theorem dX6_hangerItem_72 : decode cX6_hangerItem 72 = .ok (.invokestatic 53, 3) := by decide +kernel
theorem dX6_hangerItem_75 : decode cX6_hangerItem 75 = .ok (.iconst 1, 1) := by decide +kernel
theorem dX6_hangerItem_76 : decode cX6_hangerItem 76 = .ok (.iastore, 1) := by decide +kernel
theorem dX6_hangerItem_77 : decode cX6_hangerItem 77 = .ok (.aload_n 0, 1) := by decide +kernel
theorem dX6_hangerItem_78 : decode cX6_hangerItem 78 = .ok (.invokevirtual 241, 3) := by decide +kernel
theorem dX6_hangerItem_81 : decode cX6_hangerItem 81 = .ok (.ldc2_w 267, 3) := by decide +kernel
theorem dX6_hangerItem_84 : decode cX6_hangerItem 84 = .ok (.lcmp, 1) := by decide +kernel
theorem dX6_hangerItem_85 : decode cX6_hangerItem 85 = .ok (.ifCond .ne 29, 3) := by decide +kernel
theorem dX6_hangerItem_88 : decode cX6_hangerItem 88 = .ok (.aload_n 0, 1) := by decide +kernel
theorem dX6_hangerItem_89 : decode cX6_hangerItem 89 = .ok (.iconst 1, 1) := by decide +kernel
theorem dX6_hangerItem_90 : decode cX6_hangerItem 90 = .ok (.invokevirtual 237, 3) := by decide +kernel
theorem dX6_hangerItem_93 : decode cX6_hangerItem 93 = .ok (.aload_n 0, 1) := by decide +kernel
theorem dX6_hangerItem_94 : decode cX6_hangerItem 94 = .ok (.iconst 1, 1) := by decide +kernel
theorem dX6_hangerItem_95 : decode cX6_hangerItem 95 = .ok (.bipush 9, 2) := by decide +kernel
theorem dX6_hangerItem_97 : decode cX6_hangerItem 97 = .ok (.invokevirtual 269, 3) := by decide +kernel
theorem dX6_hangerItem_100 : decode cX6_hangerItem 100 = .ok (.aload_n 0, 1) := by decide +kernel
theorem dX6_hangerItem_101 : decode cX6_hangerItem 101 = .ok (.getfield 7, 3) := by decide +kernel
theorem dX6_hangerItem_104 : decode cX6_hangerItem 104 = .ok (.iload_n 2, 1) := by decide +kernel
theorem dX6_hangerItem_105 : decode cX6_hangerItem 105 = .ok (.iconst 3, 1) := by decide +kernel
theorem dX6_hangerItem_106 : decode cX6_hangerItem 106 = .ok (.invokestatic 53, 3) := by decide +kernel
theorem dX6_hangerItem_109 : decode cX6_hangerItem 109 = .ok (.aload_n 0, 1) := by decide +kernel
theorem dX6_hangerItem_110 : decode cX6_hangerItem 110 = .ok (.getfield 234, 3) := by decide +kernel
theorem dX6_hangerItem_113 : decode cX6_hangerItem 113 = .ok (.iastore, 1) := by decide +kernel
theorem dX6_hangerItem_114 : decode cX6_hangerItem 114 = .ok (.aload_n 0, 1) := by decide +kernel
theorem dX6_hangerItem_115 : decode cX6_hangerItem 115 = .ok (.invokevirtual 241, 3) := by decide +kernel
theorem dX6_hangerItem_118 : decode cX6_hangerItem 118 = .ok (.ldc2_w 272, 3) := by decide +kernel
theorem dX6_hangerItem_121 : decode cX6_hangerItem 121 = .ok (.lcmp, 1) := by decide +kernel
theorem dX6_hangerItem_122 : decode cX6_hangerItem 122 = .ok (.ifCond .ne 29, 3) := by decide +kernel
theorem dX6_hangerItem_125 : decode cX6_hangerItem 125 = .ok (.aload_n 0, 1) := by decide +kernel
theorem dX6_hangerItem_126 : decode cX6_hangerItem 126 = .ok (.iconst 1, 1) := by decide +kernel
theorem dX6_hangerItem_127 : decode cX6_hangerItem 127 = .ok (.invokevirtual 237, 3) := by decide +kernel
theorem dX6_hangerItem_130 : decode cX6_hangerItem 130 = .ok (.aload_n 0, 1) := by decide +kernel
theorem dX6_hangerItem_131 : decode cX6_hangerItem 131 = .ok (.iconst 0, 1) := by decide +kernel
theorem dX6_hangerItem_132 : decode cX6_hangerItem 132 = .ok (.bipush 15, 2) := by decide +kernel
theorem dX6_hangerItem_134 : decode cX6_hangerItem 134 = .ok (.invokevirtual 269, 3) := by decide +kernel
theorem dX6_hangerItem_137 : decode cX6_hangerItem 137 = .ok (.aload_n 0, 1) := by decide +kernel
theorem dX6_hangerItem_138 : decode cX6_hangerItem 138 = .ok (.getfield 7, 3) := by decide +kernel
theorem dX6_hangerItem_141 : decode cX6_hangerItem 141 = .ok (.iload_n 2, 1) := by decide +kernel
theorem dX6_hangerItem_142 : decode cX6_hangerItem 142 = .ok (.iconst 4, 1) := by decide +kernel
theorem dX6_hangerItem_143 : decode cX6_hangerItem 143 = .ok (.invokestatic 53, 3) := by decide +kernel
theorem dX6_hangerItem_146 : decode cX6_hangerItem 146 = .ok (.aload_n 0, 1) := by decide +kernel
theorem dX6_hangerItem_147 : decode cX6_hangerItem 147 = .ok (.getfield 234, 3) := by decide +kernel
theorem dX6_hangerItem_150 : decode cX6_hangerItem 150 = .ok (.iastore, 1) := by decide +kernel
theorem dX6_hangerItem_151 : decode cX6_hangerItem 151 = .ok (.return_, 1) := by decide +kernel
theorem dX6_item_0 : decode cX6_item 0 = .ok (.aload_n 0, 1) := by decide +kernel
theorem dX6_item_1 : decode cX6_item 1 = .ok (.invokevirtual 274, 3) := by decide +kernel
theorem dX6_item_4 : decode cX6_item 4 = .ok (.istore_n 1, 1) := by decide +kernel
theorem dX6_item_5 : decode cX6_item 5 = .ok (.iload_n 1, 1) := by decide +kernel
theorem dX6_item_6 : decode cX6_item 6 = .ok (.ifCond .lt 11, 3) := by decide +kernel
theorem dX6_item_9 : decode cX6_item 9 = .ok (.aload_n 0, 1) := by decide +kernel
theorem dX6_item_10 : decode cX6_item 10 = .ok (.iload_n 1, 1) := by decide +kernel
theorem dX6_item_11 : decode cX6_item 11 = .ok (.invokevirtual 277, 3) := by decide +kernel
theorem dX6_item_14 : decode cX6_item 14 = .ok (.goto 56, 3) := by decide +kernel
theorem dX6_item_17 : decode cX6_item 17 = .ok (.aload_n 0, 1) := by decide +kernel
theorem dX6_item_18 : decode cX6_item 18 = .ok (.aload_n 0, 1) := by decide +kernel
theorem dX6_item_19 : decode cX6_item 19 = .ok (.invokevirtual 241, 3) := by decide +kernel
theorem dX6_item_22 : decode cX6_item 22 = .ok (.ldc2_w 280, 3) := by decide +kernel
theorem dX6_item_25 : decode cX6_item 25 = .ok (.lcmp, 1) := by decide +kernel
theorem dX6_item_26 : decode cX6_item 26 = .ok (.ifCond .ne 7, 3) := by decide +kernel
theorem dX6_item_29 : decode cX6_item 29 = .ok (.iconst 1, 1) := by decide +kernel
theorem dX6_item_30 : decode cX6_item 30 = .ok (.goto 4, 3) := by decide +kernel
theorem dX6_item_33 : decode cX6_item 33 = .ok (.iconst 0, 1) := by decide +kernel
theorem dX6_item_34 : decode cX6_item 34 = .ok (.invokevirtual 237, 3) := by decide +kernel
theorem dX6_item_37 : decode cX6_item 37 = .ok (.aload_n 0, 1) := by decide +kernel
theorem dX6_item_38 : decode cX6_item 38 = .ok (.iconst 0, 1) := by decide +kernel
theorem dX6_item_39 : decode cX6_item 39 = .ok (.bipush 99, 2) := by decide +kernel
theorem dX6_item_41 : decode cX6_item 41 = .ok (.invokevirtual 269, 3) := by decide +kernel
theorem dX6_item_44 : decode cX6_item 44 = .ok (.aload_n 0, 1) := by decide +kernel
theorem dX6_item_45 : decode cX6_item 45 = .ok (.getfield 7, 3) := by decide +kernel
theorem dX6_item_48 : decode cX6_item 48 = .ok (.iconst 2, 1) := by decide +kernel
theorem dX6_item_49 : decode cX6_item 49 = .ok (.aload_n 0, 1) := by decide +kernel
theorem dX6_item_50 : decode cX6_item 50 = .ok (.getfield 223, 3) := by decide +kernel
theorem dX6_item_53 : decode cX6_item 53 = .ok (.ifCond .eq 12, 3) := by decide +kernel
theorem dX6_item_56 : decode cX6_item 56 = .ok (.aload_n 0, 1) := by decide +kernel
theorem dX6_item_57 : decode cX6_item 57 = .ok (.getfield 7, 3) := by decide +kernel
theorem dX6_item_60 : decode cX6_item 60 = .ok (.iconst 2, 1) := by decide +kernel
theorem dX6_item_61 : decode cX6_item 61 = .ok (.iaload, 1) := by decide +kernel
theorem dX6_item_62 : decode cX6_item 62 = .ok (.goto 7, 3) := by decide +kernel
theorem dX6_item_65 : decode cX6_item 65 = .ok (.aload_n 0, 1) := by decide +kernel
theorem dX6_item_66 : decode cX6_item 66 = .ok (.getfield 234, 3) := by decide +kernel
theorem dX6_item_69 : decode cX6_item 69 = .ok (.iastore, 1) := by decide +kernel
theorem dX6_item_70 : decode cX6_item 70 = .ok (.return_, 1) := by decide +kernel
theorem dX6_rail_0 : decode cX6_rail 0 = .ok (.aload_n 0, 1) := by decide +kernel
theorem dX6_rail_1 : decode cX6_rail 1 = .ok (.invokevirtual 282, 3) := by decide +kernel
theorem dX6_rail_4 : decode cX6_rail 4 = .ok (.aload_n 0, 1) := by decide +kernel
theorem dX6_rail_5 : decode cX6_rail 5 = .ok (.iconst 0, 1) := by decide +kernel
theorem dX6_rail_6 : decode cX6_rail 6 = .ok (.putfield 223, 3) := by decide +kernel
theorem dX6_rail_9 : decode cX6_rail 9 = .ok (.aload_n 0, 1) := by decide +kernel
theorem dX6_rail_10 : decode cX6_rail 10 = .ok (.iconst 0, 1) := by decide +kernel
theorem dX6_rail_11 : decode cX6_rail 11 = .ok (.putfield 208, 3) := by decide +kernel
theorem dX6_rail_14 : decode cX6_rail 14 = .ok (.aload_n 0, 1) := by decide +kernel
theorem dX6_rail_15 : decode cX6_rail 15 = .ok (.invokevirtual 227, 3) := by decide +kernel
theorem dX6_rail_18 : decode cX6_rail 18 = .ok (.iconst 1, 1) := by decide +kernel
theorem dX6_rail_19 : decode cX6_rail 19 = .ok (.istore_n 1, 1) := by decide +kernel
theorem dX6_rail_20 : decode cX6_rail 20 = .ok (.aload_n 0, 1) := by decide +kernel
theorem dX6_rail_21 : decode cX6_rail 21 = .ok (.invokevirtual 285, 3) := by decide +kernel
theorem dX6_rail_24 : decode cX6_rail 24 = .ok (.aload_n 0, 1) := by decide +kernel
theorem dX6_rail_25 : decode cX6_rail 25 = .ok (.getfield 223, 3) := by decide +kernel
theorem dX6_rail_28 : decode cX6_rail 28 = .ok (.ifCond .ne 31, 3) := by decide +kernel
theorem dX6_rail_31 : decode cX6_rail 31 = .ok (.aload_n 0, 1) := by decide +kernel
theorem dX6_rail_32 : decode cX6_rail 32 = .ok (.aload_n 0, 1) := by decide +kernel
theorem dX6_rail_33 : decode cX6_rail 33 = .ok (.getfield 211, 3) := by decide +kernel
theorem dX6_rail_36 : decode cX6_rail 36 = .ok (.invokevirtual 214, 3) := by decide +kernel
theorem dX6_rail_39 : decode cX6_rail 39 = .ok (.bipush 59, 2) := by decide +kernel
theorem dX6_rail_41 : decode cX6_rail 41 = .ok (.if_icmp .ne 18, 3) := by decide +kernel
theorem dX6_rail_44 : decode cX6_rail 44 = .ok (.aload_n 0, 1) := by decide +kernel
theorem dX6_rail_45 : decode cX6_rail 45 = .ok (.iconst 1, 1) := by decide +kernel
theorem dX6_rail_46 : decode cX6_rail 46 = .ok (.invokevirtual 237, 3) := by decide +kernel
theorem dX6_rail_49 : decode cX6_rail 49 = .ok (.aload_n 0, 1) := by decide +kernel
theorem dX6_rail_50 : decode cX6_rail 50 = .ok (.invokevirtual 285, 3) := by decide +kernel
theorem dX6_rail_53 : decode cX6_rail 53 = .ok (.iinc 1 1, 3) := by decide +kernel
theorem dX6_rail_56 : decode cX6_rail 56 = .ok (.goto (-32), 3) := by decide +kernel
theorem dX6_rail_59 : decode cX6_rail 59 = .ok (.aload_n 0, 1) := by decide +kernel
theorem dX6_rail_60 : decode cX6_rail 60 = .ok (.aload_n 0, 1) := by decide +kernel
theorem dX6_rail_61 : decode cX6_rail 61 = .ok (.getfield 223, 3) := by decide +kernel
theorem dX6_rail_64 : decode cX6_rail 64 = .ok (.ifCond .ne 14, 3) := by decide +kernel
theorem dX6_rail_67 : decode cX6_rail 67 = .ok (.aload_n 0, 1) := by decide +kernel
theorem dX6_rail_68 : decode cX6_rail 68 = .ok (.getfield 211, 3) := by decide +kernel
theorem dX6_rail_71 : decode cX6_rail 71 = .ok (.aload_n 0, 1) := by decide +kernel
theorem dX6_rail_72 : decode cX6_rail 72 = .ok (.getfield 197, 3) := by decide +kernel
theorem dX6_rail_75 : decode cX6_rail 75 = .ok (.if_icmp .ge 7, 3) := by decide +kernel
theorem dX6_rail_78 : decode cX6_rail 78 = .ok (.iconst 1, 1) := by decide +kernel
theorem dX6_rail_79 : decode cX6_rail 79 = .ok (.goto 4, 3) := by decide +kernel
theorem dX6_rail_82 : decode cX6_rail 82 = .ok (.iconst 0, 1) := by decide +kernel
theorem dX6_rail_83 : decode cX6_rail 83 = .ok (.putfield 223, 3) := by decide +kernel
theorem dX6_rail_86 : decode cX6_rail 86 = .ok (.aload_n 0, 1) := by decide +kernel
theorem dX6_rail_87 : decode cX6_rail 87 = .ok (.getfield 223, 3) := by decide +kernel
theorem dX6_rail_90 : decode cX6_rail 90 = .ok (.ifCond .eq 7, 3) := by decide +kernel
theorem dX6_rail_93 : decode cX6_rail 93 = .ok (.aload_n 0, 1) := by decide +kernel
theorem dX6_rail_94 : decode cX6_rail 94 = .ok (.invokevirtual 288, 3) := by decide +kernel
theorem dX6_rail_97 : decode cX6_rail 97 = .ok (.aload_n 0, 1) := by decide +kernel
theorem dX6_rail_98 : decode cX6_rail 98 = .ok (.iconst 0, 1) := by decide +kernel
theorem dX6_rail_99 : decode cX6_rail 99 = .ok (.putfield 197, 3) := by decide +kernel
theorem dX6_rail_102 : decode cX6_rail 102 = .ok (.aload_n 0, 1) := by decide +kernel
theorem dX6_rail_103 : decode cX6_rail 103 = .ok (.getfield 223, 3) := by decide +kernel
theorem dX6_rail_106 : decode cX6_rail 106 = .ok (.ifCond .eq 12, 3) := by decide +kernel
theorem dX6_rail_109 : decode cX6_rail 109 = .ok (.iconst (-1), 1) := by decide +kernel
theorem dX6_rail_110 : decode cX6_rail 110 = .ok (.aload_n 0, 1) := by decide +kernel
theorem dX6_rail_111 : decode cX6_rail 111 = .ok (.getfield 211, 3) := by decide +kernel
theorem dX6_rail_114 : decode cX6_rail 114 = .ok (.isub, 1) := by decide +kernel
theorem dX6_rail_115 : decode cX6_rail 115 = .ok (.goto 4, 3) := by decide +kernel
theorem dX6_rail_118 : decode cX6_rail 118 = .ok (.iload_n 1, 1) := by decide +kernel
theorem dX6_rail_119 : decode cX6_rail 119 = .ok (.ireturn, 1) := by decide +kernel
theorem dX6_isOne_0 : decode cX6_isOne 0 = .ok (.iload_n 0, 1) := by decide +kernel
theorem dX6_isOne_1 : decode cX6_isOne 1 = .ok (.i2l, 1) := by decide +kernel
theorem dX6_isOne_2 : decode cX6_isOne 2 = .ok (.lconst 0, 1) := by decide +kernel
theorem dX6_isOne_3 : decode cX6_isOne 3 = .ok (.ldc2_w 291, 3) := by decide +kernel
theorem dX6_isOne_6 : decode cX6_isOne 6 = .ok (.invokestatic 47, 3) := by decide +kernel
theorem dX6_isOne_9 : decode cX6_isOne 9 = .ok (.ireturn, 1) := by decide +kernel
theorem dX6_sheet_0 : decode cX6_sheet 0 = .ok (.iload_n 1, 1) := by decide +kernel
theorem dX6_sheet_1 : decode cX6_sheet 1 = .ok (.invokestatic 293, 3) := by decide +kernel
theorem dX6_sheet_4 : decode cX6_sheet 4 = .ok (.ifCond .eq 25, 3) := by decide +kernel
theorem dX6_sheet_7 : decode cX6_sheet 7 = .ok (.iload_n 2, 1) := by decide +kernel
theorem dX6_sheet_8 : decode cX6_sheet 8 = .ok (.ifCond .eq 28, 3) := by decide +kernel
theorem dX6_sheet_11 : decode cX6_sheet 11 = .ok (.iload_n 2, 1) := by decide +kernel
theorem dX6_sheet_12 : decode cX6_sheet 12 = .ok (.bipush 8, 2) := by decide +kernel
theorem dX6_sheet_14 : decode cX6_sheet 14 = .ok (.if_icmp .eq 22, 3) := by decide +kernel
theorem dX6_sheet_17 : decode cX6_sheet 17 = .ok (.iload_n 2, 1) := by decide +kernel
theorem dX6_sheet_18 : decode cX6_sheet 18 = .ok (.bipush 16, 2) := by decide +kernel
theorem dX6_sheet_20 : decode cX6_sheet 20 = .ok (.if_icmp .eq 16, 3) := by decide +kernel
theorem dX6_sheet_23 : decode cX6_sheet 23 = .ok (.iload_n 2, 1) := by decide +kernel
theorem dX6_sheet_24 : decode cX6_sheet 24 = .ok (.bipush 64, 2) := by decide +kernel
theorem dX6_sheet_26 : decode cX6_sheet 26 = .ok (.if_icmp .eq 10, 3) := by decide +kernel
theorem dX6_sheet_29 : decode cX6_sheet 29 = .ok (.aload_n 0, 1) := by decide +kernel
theorem dX6_sheet_30 : decode cX6_sheet 30 = .ok (.ldc 44, 2) := by decide +kernel
theorem dX6_sheet_32 : decode cX6_sheet 32 = .ok (.invokevirtual 64, 3) := by decide +kernel
theorem dX6_sheet_35 : decode cX6_sheet 35 = .ok (.ireturn, 1) := by decide +kernel
theorem dX6_sheet_36 : decode cX6_sheet 36 = .ok (.iload_n 3, 1) := by decide +kernel
theorem dX6_sheet_37 : decode cX6_sheet 37 = .ok (.ifCond .ge 11, 3) := by decide +kernel
theorem dX6_sheet_40 : decode cX6_sheet 40 = .ok (.aload_n 0, 1) := by decide +kernel
theorem dX6_sheet_41 : decode cX6_sheet 41 = .ok (.ldc_w 296, 3) := by decide +kernel
theorem dX6_sheet_44 : decode cX6_sheet 44 = .ok (.invokevirtual 64, 3) := by decide +kernel
theorem dX6_sheet_47 : decode cX6_sheet 47 = .ok (.ireturn, 1) := by decide +kernel
theorem dX6_sheet_48 : decode cX6_sheet 48 = .ok (.iload_n 3, 1) := by decide +kernel
theorem dX6_sheet_49 : decode cX6_sheet 49 = .ok (.bipush 40, 2) := by decide +kernel
theorem dX6_sheet_51 : decode cX6_sheet 51 = .ok (.if_icmp .le 10, 3) := by decide +kernel
theorem dX6_sheet_54 : decode cX6_sheet 54 = .ok (.aload_n 0, 1) := by decide +kernel
theorem dX6_sheet_55 : decode cX6_sheet 55 = .ok (.ldc 44, 2) := by decide +kernel
theorem dX6_sheet_57 : decode cX6_sheet 57 = .ok (.invokevirtual 64, 3) := by decide +kernel
theorem dX6_sheet_60 : decode cX6_sheet 60 = .ok (.ireturn, 1) := by decide +kernel
theorem dX6_sheet_61 : decode cX6_sheet 61 = .ok (.aload_n 0, 1) := by decide +kernel
theorem dX6_sheet_62 : decode cX6_sheet 62 = .ok (.getfield 31, 3) := by decide +kernel
theorem dX6_sheet_65 : decode cX6_sheet 65 = .ok (.iload_n 1, 1) := by decide +kernel
theorem dX6_sheet_66 : decode cX6_sheet 66 = .ok (.iload_n 2, 1) := by decide +kernel
theorem dX6_sheet_67 : decode cX6_sheet 67 = .ok (.iastore, 1) := by decide +kernel
theorem dX6_sheet_68 : decode cX6_sheet 68 = .ok (.aload_n 0, 1) := by decide +kernel
theorem dX6_sheet_69 : decode cX6_sheet 69 = .ok (.getfield 34, 3) := by decide +kernel
theorem dX6_sheet_72 : decode cX6_sheet 72 = .ok (.iload_n 1, 1) := by decide +kernel
theorem dX6_sheet_73 : decode cX6_sheet 73 = .ok (.iload_n 2, 1) := by decide +kernel
theorem dX6_sheet_74 : decode cX6_sheet 74 = .ok (.ifCond .ne 7, 3) := by decide +kernel
theorem dX6_sheet_77 : decode cX6_sheet 77 = .ok (.iconst 0, 1) := by decide +kernel
theorem dX6_sheet_78 : decode cX6_sheet 78 = .ok (.goto 4, 3) := by decide +kernel
theorem dX6_sheet_81 : decode cX6_sheet 81 = .ok (.iload_n 3, 1) := by decide +kernel
theorem dX6_sheet_82 : decode cX6_sheet 82 = .ok (.iastore, 1) := by decide +kernel
theorem dX6_sheet_83 : decode cX6_sheet 83 = .ok (.iconst 0, 1) := by decide +kernel
theorem dX6_sheet_84 : decode cX6_sheet 84 = .ok (.istore 4, 2) := by decide +kernel
theorem dX6_sheet_86 : decode cX6_sheet 86 = .ok (.iload 4, 2) := by decide +kernel
theorem dX6_sheet_88 : decode cX6_sheet 88 = .ok (.bipush 40, 2) := by decide +kernel
theorem dX6_sheet_90 : decode cX6_sheet 90 = .ok (.if_icmp .ge 22, 3) := by decide +kernel
theorem dX6_sheet_93 : decode cX6_sheet 93 = .ok (.aload_n 0, 1) := by decide +kernel
theorem dX6_sheet_94 : decode cX6_sheet 94 = .ok (.getfield 37, 3) := by decide +kernel
theorem dX6_sheet_97 : decode cX6_sheet 97 = .ok (.bipush 40, 2) := by decide +kernel
theorem dX6_sheet_99 : decode cX6_sheet 99 = .ok (.iload_n 1, 1) := by decide +kernel
theorem dX6_sheet_100 : decode cX6_sheet 100 = .ok (.imul, 1) := by decide +kernel
theorem dX6_sheet_101 : decode cX6_sheet 101 = .ok (.iload 4, 2) := by decide +kernel
theorem dX6_sheet_103 : decode cX6_sheet 103 = .ok (.iadd, 1) := by decide +kernel
theorem dX6_sheet_104 : decode cX6_sheet 104 = .ok (.lconst 0, 1) := by decide +kernel
theorem dX6_sheet_105 : decode cX6_sheet 105 = .ok (.lastore, 1) := by decide +kernel
theorem dX6_sheet_106 : decode cX6_sheet 106 = .ok (.iinc 4 1, 3) := by decide +kernel
theorem dX6_sheet_109 : decode cX6_sheet 109 = .ok (.goto (-23), 3) := by decide +kernel
theorem dX6_sheet_112 : decode cX6_sheet 112 = .ok (.aload_n 0, 1) := by decide +kernel
theorem dX6_sheet_113 : decode cX6_sheet 113 = .ok (.getfield 34, 3) := by decide +kernel
theorem dX6_sheet_116 : decode cX6_sheet 116 = .ok (.iload_n 1, 1) := by decide +kernel
theorem dX6_sheet_117 : decode cX6_sheet 117 = .ok (.iaload, 1) := by decide +kernel
theorem dX6_sheet_118 : decode cX6_sheet 118 = .ok (.ireturn, 1) := by decide +kernel
theorem dX6_narrowed_0 : decode cX6_narrowed 0 = .ok (.iload_n 0, 1) := by decide +kernel
theorem dX6_narrowed_1 : decode cX6_narrowed 1 = .ok (.bipush 8, 2) := by decide +kernel
theorem dX6_narrowed_3 : decode cX6_narrowed 3 = .ok (.if_icmp .ne 10, 3) := by decide +kernel
theorem dX6_narrowed_6 : decode cX6_narrowed 6 = .ok (.lload_n 1, 1) := by decide +kernel
theorem dX6_narrowed_7 : decode cX6_narrowed 7 = .ok (.l2i, 1) := by decide +kernel
theorem dX6_narrowed_8 : decode cX6_narrowed 8 = .ok (.i2b, 1) := by decide +kernel
theorem dX6_narrowed_9 : decode cX6_narrowed 9 = .ok (.i2l, 1) := by decide +kernel
theorem dX6_narrowed_10 : decode cX6_narrowed 10 = .ok (.goto 17, 3) := by decide +kernel
theorem dX6_narrowed_13 : decode cX6_narrowed 13 = .ok (.iload_n 0, 1) := by decide +kernel
theorem dX6_narrowed_14 : decode cX6_narrowed 14 = .ok (.bipush 16, 2) := by decide +kernel
theorem dX6_narrowed_16 : decode cX6_narrowed 16 = .ok (.if_icmp .ne 10, 3) := by decide +kernel
theorem dX6_narrowed_19 : decode cX6_narrowed 19 = .ok (.lload_n 1, 1) := by decide +kernel
theorem dX6_narrowed_20 : decode cX6_narrowed 20 = .ok (.l2i, 1) := by decide +kernel
theorem dX6_narrowed_21 : decode cX6_narrowed 21 = .ok (.i2s, 1) := by decide +kernel
theorem dX6_narrowed_22 : decode cX6_narrowed 22 = .ok (.i2l, 1) := by decide +kernel
theorem dX6_narrowed_23 : decode cX6_narrowed 23 = .ok (.goto 4, 3) := by decide +kernel
theorem dX6_narrowed_26 : decode cX6_narrowed 26 = .ok (.lload_n 1, 1) := by decide +kernel
theorem dX6_narrowed_27 : decode cX6_narrowed 27 = .ok (.lreturn, 1) := by decide +kernel
theorem dX6_wrongSheet_0 : decode cX6_wrongSheet 0 = .ok (.iload_n 1, 1) := by decide +kernel
theorem dX6_wrongSheet_1 : decode cX6_wrongSheet 1 = .ok (.invokestatic 293, 3) := by decide +kernel
theorem dX6_wrongSheet_4 : decode cX6_wrongSheet 4 = .ok (.ifCond .ne 8, 3) := by decide +kernel
theorem dX6_wrongSheet_7 : decode cX6_wrongSheet 7 = .ok (.ldc 44, 2) := by decide +kernel
theorem dX6_wrongSheet_9 : decode cX6_wrongSheet 9 = .ok (.goto 19, 3) := by decide +kernel
theorem dX6_wrongSheet_12 : decode cX6_wrongSheet 12 = .ok (.aload_n 0, 1) := by decide +kernel
theorem dX6_wrongSheet_13 : decode cX6_wrongSheet 13 = .ok (.getfield 31, 3) := by decide +kernel
theorem dX6_wrongSheet_16 : decode cX6_wrongSheet 16 = .ok (.iload_n 1, 1) := by decide +kernel
theorem dX6_wrongSheet_17 : decode cX6_wrongSheet 17 = .ok (.iaload, 1) := by decide +kernel
theorem dX6_wrongSheet_18 : decode cX6_wrongSheet 18 = .ok (.ifCond .ne 9, 3) := by decide +kernel
theorem dX6_wrongSheet_21 : decode cX6_wrongSheet 21 = .ok (.ldc_w 297, 3) := by decide +kernel
theorem dX6_wrongSheet_24 : decode cX6_wrongSheet 24 = .ok (.goto 4, 3) := by decide +kernel
theorem dX6_wrongSheet_27 : decode cX6_wrongSheet 27 = .ok (.iconst 0, 1) := by decide +kernel
theorem dX6_wrongSheet_28 : decode cX6_wrongSheet 28 = .ok (.ireturn, 1) := by decide +kernel
theorem dX6_write_0 : decode cX6_write 0 = .ok (.aload_n 0, 1) := by decide +kernel
theorem dX6_write_1 : decode cX6_write 1 = .ok (.iload_n 1, 1) := by decide +kernel
theorem dX6_write_2 : decode cX6_write 2 = .ok (.invokevirtual 298, 3) := by decide +kernel
theorem dX6_write_5 : decode cX6_write 5 = .ok (.istore 5, 2) := by decide +kernel
theorem dX6_write_7 : decode cX6_write 7 = .ok (.iload 5, 2) := by decide +kernel
theorem dX6_write_9 : decode cX6_write 9 = .ok (.ifCond .eq 11, 3) := by decide +kernel
theorem dX6_write_12 : decode cX6_write 12 = .ok (.aload_n 0, 1) := by decide +kernel
theorem dX6_write_13 : decode cX6_write 13 = .ok (.iload 5, 2) := by decide +kernel
theorem dX6_write_15 : decode cX6_write 15 = .ok (.invokevirtual 64, 3) := by decide +kernel
theorem dX6_write_18 : decode cX6_write 18 = .ok (.i2l, 1) := by decide +kernel
theorem dX6_write_19 : decode cX6_write 19 = .ok (.lreturn, 1) := by decide +kernel
theorem dX6_write_20 : decode cX6_write 20 = .ok (.iload_n 2, 1) := by decide +kernel
theorem dX6_write_21 : decode cX6_write 21 = .ok (.i2l, 1) := by decide +kernel
theorem dX6_write_22 : decode cX6_write 22 = .ok (.lconst 0, 1) := by decide +kernel
theorem dX6_write_23 : decode cX6_write 23 = .ok (.aload_n 0, 1) := by decide +kernel
theorem dX6_write_24 : decode cX6_write 24 = .ok (.getfield 34, 3) := by decide +kernel
theorem dX6_write_27 : decode cX6_write 27 = .ok (.iload_n 1, 1) := by decide +kernel
theorem dX6_write_28 : decode cX6_write 28 = .ok (.iaload, 1) := by decide +kernel
theorem dX6_write_29 : decode cX6_write 29 = .ok (.iconst 1, 1) := by decide +kernel
theorem dX6_write_30 : decode cX6_write 30 = .ok (.isub, 1) := by decide +kernel
theorem dX6_write_31 : decode cX6_write 31 = .ok (.i2l, 1) := by decide +kernel
theorem dX6_write_32 : decode cX6_write 32 = .ok (.invokestatic 47, 3) := by decide +kernel
theorem dX6_write_35 : decode cX6_write 35 = .ok (.ifCond .ne 11, 3) := by decide +kernel
theorem dX6_write_38 : decode cX6_write 38 = .ok (.aload_n 0, 1) := by decide +kernel
theorem dX6_write_39 : decode cX6_write 39 = .ok (.ldc 44, 2) := by decide +kernel
theorem dX6_write_41 : decode cX6_write 41 = .ok (.invokevirtual 64, 3) := by decide +kernel
theorem dX6_write_44 : decode cX6_write 44 = .ok (.i2l, 1) := by decide +kernel
theorem dX6_write_45 : decode cX6_write 45 = .ok (.lreturn, 1) := by decide +kernel
theorem dX6_write_46 : decode cX6_write 46 = .ok (.aload_n 0, 1) := by decide +kernel
theorem dX6_write_47 : decode cX6_write 47 = .ok (.getfield 37, 3) := by decide +kernel
theorem dX6_write_50 : decode cX6_write 50 = .ok (.bipush 40, 2) := by decide +kernel
theorem dX6_write_52 : decode cX6_write 52 = .ok (.iload_n 1, 1) := by decide +kernel
theorem dX6_write_53 : decode cX6_write 53 = .ok (.imul, 1) := by decide +kernel
theorem dX6_write_54 : decode cX6_write 54 = .ok (.iload_n 2, 1) := by decide +kernel
theorem dX6_write_55 : decode cX6_write 55 = .ok (.iadd, 1) := by decide +kernel
theorem dX6_write_56 : decode cX6_write 56 = .ok (.laload, 1) := by decide +kernel
theorem dX6_write_57 : decode cX6_write 57 = .ok (.lstore 6, 2) := by decide +kernel
theorem dX6_write_59 : decode cX6_write 59 = .ok (.aload_n 0, 1) := by decide +kernel
theorem dX6_write_60 : decode cX6_write 60 = .ok (.getfield 37, 3) := by decide +kernel
theorem dX6_write_63 : decode cX6_write 63 = .ok (.bipush 40, 2) := by decide +kernel
theorem dX6_write_65 : decode cX6_write 65 = .ok (.iload_n 1, 1) := by decide +kernel
theorem dX6_write_66 : decode cX6_write 66 = .ok (.imul, 1) := by decide +kernel
theorem dX6_write_67 : decode cX6_write 67 = .ok (.iload_n 2, 1) := by decide +kernel
theorem dX6_write_68 : decode cX6_write 68 = .ok (.iadd, 1) := by decide +kernel
theorem dX6_write_69 : decode cX6_write 69 = .ok (.aload_n 0, 1) := by decide +kernel
theorem dX6_write_70 : decode cX6_write 70 = .ok (.getfield 31, 3) := by decide +kernel
theorem dX6_write_73 : decode cX6_write 73 = .ok (.iload_n 1, 1) := by decide +kernel
theorem dX6_write_74 : decode cX6_write 74 = .ok (.iaload, 1) := by decide +kernel
theorem dX6_write_75 : decode cX6_write 75 = .ok (.lload_n 3, 1) := by decide +kernel
theorem dX6_write_76 : decode cX6_write 76 = .ok (.invokestatic 301, 3) := by decide +kernel
theorem dX6_write_79 : decode cX6_write 79 = .ok (.lastore, 1) := by decide +kernel
theorem dX6_write_80 : decode cX6_write 80 = .ok (.lload 6, 2) := by decide +kernel
theorem dX6_write_82 : decode cX6_write 82 = .ok (.lreturn, 1) := by decide +kernel
theorem dX6_copy_0 : decode cX6_copy 0 = .ok (.iload_n 1, 1) := by decide +kernel
theorem dX6_copy_1 : decode cX6_copy 1 = .ok (.invokestatic 293, 3) := by decide +kernel
theorem dX6_copy_4 : decode cX6_copy 4 = .ok (.ifCond .eq 10, 3) := by decide +kernel
theorem dX6_copy_7 : decode cX6_copy 7 = .ok (.iload_n 3, 1) := by decide +kernel
theorem dX6_copy_8 : decode cX6_copy 8 = .ok (.invokestatic 293, 3) := by decide +kernel
theorem dX6_copy_11 : decode cX6_copy 11 = .ok (.ifCond .ne 10, 3) := by decide +kernel
theorem dX6_copy_14 : decode cX6_copy 14 = .ok (.aload_n 0, 1) := by decide +kernel
theorem dX6_copy_15 : decode cX6_copy 15 = .ok (.ldc 44, 2) := by decide +kernel
theorem dX6_copy_17 : decode cX6_copy 17 = .ok (.invokevirtual 64, 3) := by decide +kernel
theorem dX6_copy_20 : decode cX6_copy 20 = .ok (.ireturn, 1) := by decide +kernel
theorem dX6_copy_21 : decode cX6_copy 21 = .ok (.aload_n 0, 1) := by decide +kernel
theorem dX6_copy_22 : decode cX6_copy 22 = .ok (.getfield 31, 3) := by decide +kernel
theorem dX6_copy_25 : decode cX6_copy 25 = .ok (.iload_n 1, 1) := by decide +kernel
theorem dX6_copy_26 : decode cX6_copy 26 = .ok (.iaload, 1) := by decide +kernel
theorem dX6_copy_27 : decode cX6_copy 27 = .ok (.ifCond .eq 12, 3) := by decide +kernel
theorem dX6_copy_30 : decode cX6_copy 30 = .ok (.aload_n 0, 1) := by decide +kernel
theorem dX6_copy_31 : decode cX6_copy 31 = .ok (.getfield 31, 3) := by decide +kernel
theorem dX6_copy_34 : decode cX6_copy 34 = .ok (.iload_n 3, 1) := by decide +kernel
theorem dX6_copy_35 : decode cX6_copy 35 = .ok (.iaload, 1) := by decide +kernel
theorem dX6_copy_36 : decode cX6_copy 36 = .ok (.ifCond .ne 11, 3) := by decide +kernel
theorem dX6_copy_39 : decode cX6_copy 39 = .ok (.aload_n 0, 1) := by decide +kernel
theorem dX6_copy_40 : decode cX6_copy 40 = .ok (.ldc_w 297, 3) := by decide +kernel
theorem dX6_copy_43 : decode cX6_copy 43 = .ok (.invokevirtual 64, 3) := by decide +kernel
theorem dX6_copy_46 : decode cX6_copy 46 = .ok (.ireturn, 1) := by decide +kernel
theorem dX6_copy_47 : decode cX6_copy 47 = .ok (.aload_n 0, 1) := by decide +kernel
theorem dX6_copy_48 : decode cX6_copy 48 = .ok (.getfield 31, 3) := by decide +kernel
theorem dX6_copy_51 : decode cX6_copy 51 = .ok (.iload_n 1, 1) := by decide +kernel
theorem dX6_copy_52 : decode cX6_copy 52 = .ok (.iaload, 1) := by decide +kernel
theorem dX6_copy_53 : decode cX6_copy 53 = .ok (.aload_n 0, 1) := by decide +kernel
theorem dX6_copy_54 : decode cX6_copy 54 = .ok (.getfield 31, 3) := by decide +kernel
theorem dX6_copy_57 : decode cX6_copy 57 = .ok (.iload_n 3, 1) := by decide +kernel
theorem dX6_copy_58 : decode cX6_copy 58 = .ok (.iaload, 1) := by decide +kernel
theorem dX6_copy_59 : decode cX6_copy 59 = .ok (.if_icmp .eq 10, 3) := by decide +kernel
theorem dX6_copy_62 : decode cX6_copy 62 = .ok (.aload_n 0, 1) := by decide +kernel
theorem dX6_copy_63 : decode cX6_copy 63 = .ok (.ldc 94, 2) := by decide +kernel
theorem dX6_copy_65 : decode cX6_copy 65 = .ok (.invokevirtual 64, 3) := by decide +kernel
theorem dX6_copy_68 : decode cX6_copy 68 = .ok (.ireturn, 1) := by decide +kernel
theorem dX6_copy_69 : decode cX6_copy 69 = .ok (.iload_n 2, 1) := by decide +kernel
theorem dX6_copy_70 : decode cX6_copy 70 = .ok (.ifCond .lt 40, 3) := by decide +kernel
theorem dX6_copy_73 : decode cX6_copy 73 = .ok (.iload 4, 2) := by decide +kernel
theorem dX6_copy_75 : decode cX6_copy 75 = .ok (.ifCond .lt 35, 3) := by decide +kernel
theorem dX6_copy_78 : decode cX6_copy 78 = .ok (.iload 5, 2) := by decide +kernel
theorem dX6_copy_80 : decode cX6_copy 80 = .ok (.ifCond .lt 30, 3) := by decide +kernel
theorem dX6_copy_83 : decode cX6_copy 83 = .ok (.iload 5, 2) := by decide +kernel
theorem dX6_copy_85 : decode cX6_copy 85 = .ok (.aload_n 0, 1) := by decide +kernel
theorem dX6_copy_86 : decode cX6_copy 86 = .ok (.getfield 34, 3) := by decide +kernel
theorem dX6_copy_89 : decode cX6_copy 89 = .ok (.iload_n 1, 1) := by decide +kernel
theorem dX6_copy_90 : decode cX6_copy 90 = .ok (.iaload, 1) := by decide +kernel
theorem dX6_copy_91 : decode cX6_copy 91 = .ok (.iload_n 2, 1) := by decide +kernel
theorem dX6_copy_92 : decode cX6_copy 92 = .ok (.isub, 1) := by decide +kernel
theorem dX6_copy_93 : decode cX6_copy 93 = .ok (.if_icmp .gt 17, 3) := by decide +kernel
theorem dX6_copy_96 : decode cX6_copy 96 = .ok (.iload 5, 2) := by decide +kernel
theorem dX6_copy_98 : decode cX6_copy 98 = .ok (.aload_n 0, 1) := by decide +kernel
theorem dX6_copy_99 : decode cX6_copy 99 = .ok (.getfield 34, 3) := by decide +kernel
theorem dX6_copy_102 : decode cX6_copy 102 = .ok (.iload_n 3, 1) := by decide +kernel
theorem dX6_copy_103 : decode cX6_copy 103 = .ok (.iaload, 1) := by decide +kernel
theorem dX6_copy_104 : decode cX6_copy 104 = .ok (.iload 4, 2) := by decide +kernel
theorem dX6_copy_106 : decode cX6_copy 106 = .ok (.isub, 1) := by decide +kernel
theorem dX6_copy_107 : decode cX6_copy 107 = .ok (.if_icmp .le 10, 3) := by decide +kernel
theorem dX6_copy_110 : decode cX6_copy 110 = .ok (.aload_n 0, 1) := by decide +kernel
theorem dX6_copy_111 : decode cX6_copy 111 = .ok (.ldc 44, 2) := by decide +kernel
theorem dX6_copy_113 : decode cX6_copy 113 = .ok (.invokevirtual 64, 3) := by decide +kernel
theorem dX6_copy_116 : decode cX6_copy 116 = .ok (.ireturn, 1) := by decide +kernel
theorem dX6_copy_117 : decode cX6_copy 117 = .ok (.iconst 0, 1) := by decide +kernel
theorem dX6_copy_118 : decode cX6_copy 118 = .ok (.istore 6, 2) := by decide +kernel
theorem dX6_copy_120 : decode cX6_copy 120 = .ok (.iload 6, 2) := by decide +kernel
theorem dX6_copy_122 : decode cX6_copy 122 = .ok (.iload 5, 2) := by decide +kernel
theorem dX6_copy_124 : decode cX6_copy 124 = .ok (.if_icmp .ge 30, 3) := by decide +kernel
theorem dX6_copy_127 : decode cX6_copy 127 = .ok (.aload_n 0, 1) := by decide +kernel
theorem dX6_copy_128 : decode cX6_copy 128 = .ok (.getfield 41, 3) := by decide +kernel
theorem dX6_copy_131 : decode cX6_copy 131 = .ok (.iload 6, 2) := by decide +kernel
theorem dX6_copy_133 : decode cX6_copy 133 = .ok (.aload_n 0, 1) := by decide +kernel
theorem dX6_copy_134 : decode cX6_copy 134 = .ok (.getfield 37, 3) := by decide +kernel
theorem dX6_copy_137 : decode cX6_copy 137 = .ok (.bipush 40, 2) := by decide +kernel
theorem dX6_copy_139 : decode cX6_copy 139 = .ok (.iload_n 1, 1) := by decide +kernel
theorem dX6_copy_140 : decode cX6_copy 140 = .ok (.imul, 1) := by decide +kernel
theorem dX6_copy_141 : decode cX6_copy 141 = .ok (.iload_n 2, 1) := by decide +kernel
theorem dX6_copy_142 : decode cX6_copy 142 = .ok (.iadd, 1) := by decide +kernel
theorem dX6_copy_143 : decode cX6_copy 143 = .ok (.iload 6, 2) := by decide +kernel
theorem dX6_copy_145 : decode cX6_copy 145 = .ok (.iadd, 1) := by decide +kernel
theorem dX6_copy_146 : decode cX6_copy 146 = .ok (.laload, 1) := by decide +kernel
theorem dX6_copy_147 : decode cX6_copy 147 = .ok (.lastore, 1) := by decide +kernel
theorem dX6_copy_148 : decode cX6_copy 148 = .ok (.iinc 6 1, 3) := by decide +kernel
theorem dX6_copy_151 : decode cX6_copy 151 = .ok (.goto (-31), 3) := by decide +kernel
theorem dX6_copy_154 : decode cX6_copy 154 = .ok (.iconst 0, 1) := by decide +kernel
theorem dX6_copy_155 : decode cX6_copy 155 = .ok (.istore 6, 2) := by decide +kernel
theorem dX6_copy_157 : decode cX6_copy 157 = .ok (.iload 6, 2) := by decide +kernel
theorem dX6_copy_159 : decode cX6_copy 159 = .ok (.iload 5, 2) := by decide +kernel
theorem dX6_copy_161 : decode cX6_copy 161 = .ok (.if_icmp .ge 31, 3) := by decide +kernel
theorem dX6_copy_164 : decode cX6_copy 164 = .ok (.aload_n 0, 1) := by decide +kernel
theorem dX6_copy_165 : decode cX6_copy 165 = .ok (.getfield 37, 3) := by decide +kernel
theorem dX6_copy_168 : decode cX6_copy 168 = .ok (.bipush 40, 2) := by decide +kernel
theorem dX6_copy_170 : decode cX6_copy 170 = .ok (.iload_n 3, 1) := by decide +kernel
theorem dX6_copy_171 : decode cX6_copy 171 = .ok (.imul, 1) := by decide +kernel
theorem dX6_copy_172 : decode cX6_copy 172 = .ok (.iload 4, 2) := by decide +kernel
theorem dX6_copy_174 : decode cX6_copy 174 = .ok (.iadd, 1) := by decide +kernel
theorem dX6_copy_175 : decode cX6_copy 175 = .ok (.iload 6, 2) := by decide +kernel
theorem dX6_copy_177 : decode cX6_copy 177 = .ok (.iadd, 1) := by decide +kernel
theorem dX6_copy_178 : decode cX6_copy 178 = .ok (.aload_n 0, 1) := by decide +kernel
theorem dX6_copy_179 : decode cX6_copy 179 = .ok (.getfield 41, 3) := by decide +kernel
theorem dX6_copy_182 : decode cX6_copy 182 = .ok (.iload 6, 2) := by decide +kernel
theorem dX6_copy_184 : decode cX6_copy 184 = .ok (.laload, 1) := by decide +kernel
theorem dX6_copy_185 : decode cX6_copy 185 = .ok (.lastore, 1) := by decide +kernel
theorem dX6_copy_186 : decode cX6_copy 186 = .ok (.iinc 6 1, 3) := by decide +kernel
theorem dX6_copy_189 : decode cX6_copy 189 = .ok (.goto (-32), 3) := by decide +kernel
theorem dX6_copy_192 : decode cX6_copy 192 = .ok (.iload 5, 2) := by decide +kernel
theorem dX6_copy_194 : decode cX6_copy 194 = .ok (.ireturn, 1) := by decide +kernel
theorem dX6_lays_0 : decode cX6_lays 0 = .ok (.aload_n 0, 1) := by decide +kernel
theorem dX6_lays_1 : decode cX6_lays 1 = .ok (.iload_n 1, 1) := by decide +kernel
theorem dX6_lays_2 : decode cX6_lays 2 = .ok (.invokevirtual 298, 3) := by decide +kernel
theorem dX6_lays_5 : decode cX6_lays 5 = .ok (.istore_n 2, 1) := by decide +kernel
theorem dX6_lays_6 : decode cX6_lays 6 = .ok (.iload_n 2, 1) := by decide +kernel
theorem dX6_lays_7 : decode cX6_lays 7 = .ok (.ifCond .eq 9, 3) := by decide +kernel
theorem dX6_lays_10 : decode cX6_lays 10 = .ok (.aload_n 0, 1) := by decide +kernel
theorem dX6_lays_11 : decode cX6_lays 11 = .ok (.iload_n 2, 1) := by decide +kernel
theorem dX6_lays_12 : decode cX6_lays 12 = .ok (.invokevirtual 64, 3) := by decide +kernel
theorem dX6_lays_15 : decode cX6_lays 15 = .ok (.ireturn, 1) := by decide +kernel
theorem dX6_lays_16 : decode cX6_lays 16 = .ok (.iconst 0, 1) := by decide +kernel
theorem dX6_lays_17 : decode cX6_lays 17 = .ok (.istore_n 3, 1) := by decide +kernel
theorem dX6_lays_18 : decode cX6_lays 18 = .ok (.iconst 0, 1) := by decide +kernel
theorem dX6_lays_19 : decode cX6_lays 19 = .ok (.istore 4, 2) := by decide +kernel
theorem dX6_lays_21 : decode cX6_lays 21 = .ok (.iload 4, 2) := by decide +kernel
theorem dX6_lays_23 : decode cX6_lays 23 = .ok (.aload_n 0, 1) := by decide +kernel
theorem dX6_lays_24 : decode cX6_lays 24 = .ok (.getfield 34, 3) := by decide +kernel
theorem dX6_lays_27 : decode cX6_lays 27 = .ok (.iload_n 1, 1) := by decide +kernel
theorem dX6_lays_28 : decode cX6_lays 28 = .ok (.iaload, 1) := by decide +kernel
theorem dX6_lays_29 : decode cX6_lays 29 = .ok (.if_icmp .ge 77, 3) := by decide +kernel
theorem dX6_lays_32 : decode cX6_lays 32 = .ok (.iload 4, 2) := by decide +kernel
theorem dX6_lays_34 : decode cX6_lays 34 = .ok (.aload_n 0, 1) := by decide +kernel
theorem dX6_lays_35 : decode cX6_lays 35 = .ok (.getfield 7, 3) := by decide +kernel
theorem dX6_lays_38 : decode cX6_lays 38 = .ok (.iconst 0, 1) := by decide +kernel
theorem dX6_lays_39 : decode cX6_lays 39 = .ok (.iaload, 1) := by decide +kernel
theorem dX6_lays_40 : decode cX6_lays 40 = .ok (.if_icmp .ge 66, 3) := by decide +kernel
theorem dX6_lays_43 : decode cX6_lays 43 = .ok (.aload_n 0, 1) := by decide +kernel
theorem dX6_lays_44 : decode cX6_lays 44 = .ok (.getfield 37, 3) := by decide +kernel
theorem dX6_lays_47 : decode cX6_lays 47 = .ok (.bipush 40, 2) := by decide +kernel
theorem dX6_lays_49 : decode cX6_lays 49 = .ok (.iload_n 1, 1) := by decide +kernel
theorem dX6_lays_50 : decode cX6_lays 50 = .ok (.imul, 1) := by decide +kernel
theorem dX6_lays_51 : decode cX6_lays 51 = .ok (.iload 4, 2) := by decide +kernel
theorem dX6_lays_53 : decode cX6_lays 53 = .ok (.iadd, 1) := by decide +kernel
theorem dX6_lays_54 : decode cX6_lays 54 = .ok (.laload, 1) := by decide +kernel
theorem dX6_lays_55 : decode cX6_lays 55 = .ok (.lstore 5, 2) := by decide +kernel
theorem dX6_lays_57 : decode cX6_lays 57 = .ok (.aload_n 0, 1) := by decide +kernel
theorem dX6_lays_58 : decode cX6_lays 58 = .ok (.iload 4, 2) := by decide +kernel
theorem dX6_lays_60 : decode cX6_lays 60 = .ok (.invokevirtual 104, 3) := by decide +kernel
theorem dX6_lays_63 : decode cX6_lays 63 = .ok (.ifCond .ne 37, 3) := by decide +kernel
theorem dX6_lays_66 : decode cX6_lays 66 = .ok (.lload 5, 2) := by decide +kernel
theorem dX6_lays_68 : decode cX6_lays 68 = .ok (.lconst 0, 1) := by decide +kernel
theorem dX6_lays_69 : decode cX6_lays 69 = .ok (.ldc2_w 45, 3) := by decide +kernel
theorem dX6_lays_72 : decode cX6_lays 72 = .ok (.invokestatic 47, 3) := by decide +kernel
theorem dX6_lays_75 : decode cX6_lays 75 = .ok (.ifCond .eq 25, 3) := by decide +kernel
theorem dX6_lays_78 : decode cX6_lays 78 = .ok (.aload_n 0, 1) := by decide +kernel
theorem dX6_lays_79 : decode cX6_lays 79 = .ok (.lload 5, 2) := by decide +kernel
theorem dX6_lays_81 : decode cX6_lays 81 = .ok (.l2i, 1) := by decide +kernel
theorem dX6_lays_82 : decode cX6_lays 82 = .ok (.invokevirtual 109, 3) := by decide +kernel
theorem dX6_lays_85 : decode cX6_lays 85 = .ok (.ifCond .eq 15, 3) := by decide +kernel
theorem dX6_lays_88 : decode cX6_lays 88 = .ok (.aload_n 0, 1) := by decide +kernel
theorem dX6_lays_89 : decode cX6_lays 89 = .ok (.iload 4, 2) := by decide +kernel
theorem dX6_lays_91 : decode cX6_lays 91 = .ok (.lload 5, 2) := by decide +kernel
theorem dX6_lays_93 : decode cX6_lays 93 = .ok (.l2i, 1) := by decide +kernel
theorem dX6_lays_94 : decode cX6_lays 94 = .ok (.invokevirtual 113, 3) := by decide +kernel
theorem dX6_lays_97 : decode cX6_lays 97 = .ok (.iinc 3 1, 3) := by decide +kernel
theorem dX6_lays_100 : decode cX6_lays 100 = .ok (.iinc 4 1, 3) := by decide +kernel
theorem dX6_lays_103 : decode cX6_lays 103 = .ok (.goto (-82), 3) := by decide +kernel
theorem dX6_lays_106 : decode cX6_lays 106 = .ok (.iload_n 3, 1) := by decide +kernel
theorem dX6_lays_107 : decode cX6_lays 107 = .ok (.ireturn, 1) := by decide +kernel
theorem dX6_book_0 : decode cX6_book 0 = .ok (.aload_n 0, 1) := by decide +kernel
theorem dX6_book_1 : decode cX6_book 1 = .ok (.iload_n 1, 1) := by decide +kernel
theorem dX6_book_2 : decode cX6_book 2 = .ok (.invokevirtual 298, 3) := by decide +kernel
theorem dX6_book_5 : decode cX6_book 5 = .ok (.istore_n 2, 1) := by decide +kernel
theorem dX6_book_6 : decode cX6_book 6 = .ok (.iload_n 2, 1) := by decide +kernel
theorem dX6_book_7 : decode cX6_book 7 = .ok (.ifCond .eq 9, 3) := by decide +kernel
theorem dX6_book_10 : decode cX6_book 10 = .ok (.aload_n 0, 1) := by decide +kernel
theorem dX6_book_11 : decode cX6_book 11 = .ok (.iload_n 2, 1) := by decide +kernel
theorem dX6_book_12 : decode cX6_book 12 = .ok (.invokevirtual 64, 3) := by decide +kernel
theorem dX6_book_15 : decode cX6_book 15 = .ok (.ireturn, 1) := by decide +kernel
theorem dX6_book_16 : decode cX6_book 16 = .ok (.iconst 0, 1) := by decide +kernel
theorem dX6_book_17 : decode cX6_book 17 = .ok (.istore_n 3, 1) := by decide +kernel
theorem dX6_book_18 : decode cX6_book 18 = .ok (.iconst 0, 1) := by decide +kernel
theorem dX6_book_19 : decode cX6_book 19 = .ok (.istore 4, 2) := by decide +kernel
theorem dX6_book_21 : decode cX6_book 21 = .ok (.iload 4, 2) := by decide +kernel
theorem dX6_book_23 : decode cX6_book 23 = .ok (.bipush 24, 2) := by decide +kernel
theorem dX6_book_25 : decode cX6_book 25 = .ok (.if_icmp .ge 59, 3) := by decide +kernel
theorem dX6_book_28 : decode cX6_book 28 = .ok (.aload_n 0, 1) := by decide +kernel
theorem dX6_book_29 : decode cX6_book 29 = .ok (.iload 4, 2) := by decide +kernel
theorem dX6_book_31 : decode cX6_book 31 = .ok (.invokevirtual 100, 3) := by decide +kernel
theorem dX6_book_34 : decode cX6_book 34 = .ok (.istore 5, 2) := by decide +kernel
theorem dX6_book_36 : decode cX6_book 36 = .ok (.iload 5, 2) := by decide +kernel
theorem dX6_book_38 : decode cX6_book 38 = .ok (.ifCond .lt 27, 3) := by decide +kernel
theorem dX6_book_41 : decode cX6_book 41 = .ok (.iload_n 3, 1) := by decide +kernel
theorem dX6_book_42 : decode cX6_book 42 = .ok (.aload_n 0, 1) := by decide +kernel
theorem dX6_book_43 : decode cX6_book 43 = .ok (.getfield 34, 3) := by decide +kernel
theorem dX6_book_46 : decode cX6_book 46 = .ok (.iload_n 1, 1) := by decide +kernel
theorem dX6_book_47 : decode cX6_book 47 = .ok (.iaload, 1) := by decide +kernel
theorem dX6_book_48 : decode cX6_book 48 = .ok (.if_icmp .ge 17, 3) := by decide +kernel
theorem dX6_book_51 : decode cX6_book 51 = .ok (.aload_n 0, 1) := by decide +kernel
theorem dX6_book_52 : decode cX6_book 52 = .ok (.getfield 37, 3) := by decide +kernel
theorem dX6_book_55 : decode cX6_book 55 = .ok (.bipush 40, 2) := by decide +kernel
theorem dX6_book_57 : decode cX6_book 57 = .ok (.iload_n 1, 1) := by decide +kernel
theorem dX6_book_58 : decode cX6_book 58 = .ok (.imul, 1) := by decide +kernel
theorem dX6_book_59 : decode cX6_book 59 = .ok (.iload_n 3, 1) := by decide +kernel
theorem dX6_book_60 : decode cX6_book 60 = .ok (.iadd, 1) := by decide +kernel
theorem dX6_book_61 : decode cX6_book 61 = .ok (.iload 5, 2) := by decide +kernel
theorem dX6_book_63 : decode cX6_book 63 = .ok (.i2l, 1) := by decide +kernel
theorem dX6_book_64 : decode cX6_book 64 = .ok (.lastore, 1) := by decide +kernel
theorem dX6_book_65 : decode cX6_book 65 = .ok (.iload_n 3, 1) := by decide +kernel
theorem dX6_book_66 : decode cX6_book 66 = .ok (.iload 5, 2) := by decide +kernel
theorem dX6_book_68 : decode cX6_book 68 = .ok (.ifCond .lt 7, 3) := by decide +kernel
theorem dX6_book_71 : decode cX6_book 71 = .ok (.iconst 1, 1) := by decide +kernel
theorem dX6_book_72 : decode cX6_book 72 = .ok (.goto 4, 3) := by decide +kernel
theorem dX6_book_75 : decode cX6_book 75 = .ok (.iconst 0, 1) := by decide +kernel
theorem dX6_book_76 : decode cX6_book 76 = .ok (.iadd, 1) := by decide +kernel
theorem dX6_book_77 : decode cX6_book 77 = .ok (.istore_n 3, 1) := by decide +kernel
theorem dX6_book_78 : decode cX6_book 78 = .ok (.iinc 4 1, 3) := by decide +kernel
theorem dX6_book_81 : decode cX6_book 81 = .ok (.goto (-60), 3) := by decide +kernel
theorem dX6_book_84 : decode cX6_book 84 = .ok (.iload_n 3, 1) := by decide +kernel
theorem dX6_book_85 : decode cX6_book 85 = .ok (.istore 4, 2) := by decide +kernel
theorem dX6_book_87 : decode cX6_book 87 = .ok (.iload 4, 2) := by decide +kernel
theorem dX6_book_89 : decode cX6_book 89 = .ok (.aload_n 0, 1) := by decide +kernel
theorem dX6_book_90 : decode cX6_book 90 = .ok (.getfield 34, 3) := by decide +kernel
theorem dX6_book_93 : decode cX6_book 93 = .ok (.iload_n 1, 1) := by decide +kernel
theorem dX6_book_94 : decode cX6_book 94 = .ok (.iaload, 1) := by decide +kernel
theorem dX6_book_95 : decode cX6_book 95 = .ok (.if_icmp .ge 24, 3) := by decide +kernel
theorem dX6_book_98 : decode cX6_book 98 = .ok (.aload_n 0, 1) := by decide +kernel
theorem dX6_book_99 : decode cX6_book 99 = .ok (.getfield 37, 3) := by decide +kernel
theorem dX6_book_102 : decode cX6_book 102 = .ok (.bipush 40, 2) := by decide +kernel
theorem dX6_book_104 : decode cX6_book 104 = .ok (.iload_n 1, 1) := by decide +kernel
theorem dX6_book_105 : decode cX6_book 105 = .ok (.imul, 1) := by decide +kernel
theorem dX6_book_106 : decode cX6_book 106 = .ok (.iload 4, 2) := by decide +kernel
theorem dX6_book_108 : decode cX6_book 108 = .ok (.iadd, 1) := by decide +kernel
theorem dX6_book_109 : decode cX6_book 109 = .ok (.ldc2_w 305, 3) := by decide +kernel
theorem dX6_book_112 : decode cX6_book 112 = .ok (.lastore, 1) := by decide +kernel
theorem dX6_book_113 : decode cX6_book 113 = .ok (.iinc 4 1, 3) := by decide +kernel
theorem dX6_book_116 : decode cX6_book 116 = .ok (.goto (-29), 3) := by decide +kernel
theorem dX6_book_119 : decode cX6_book 119 = .ok (.iload_n 3, 1) := by decide +kernel
theorem dX6_book_120 : decode cX6_book 120 = .ok (.ireturn, 1) := by decide +kernel
theorem dX6_read_0 : decode cX6_read 0 = .ok (.aload_n 0, 1) := by decide +kernel
theorem dX6_read_1 : decode cX6_read 1 = .ok (.iload_n 1, 1) := by decide +kernel
theorem dX6_read_2 : decode cX6_read 2 = .ok (.invokevirtual 298, 3) := by decide +kernel
theorem dX6_read_5 : decode cX6_read 5 = .ok (.istore_n 2, 1) := by decide +kernel
theorem dX6_read_6 : decode cX6_read 6 = .ok (.iload_n 2, 1) := by decide +kernel
theorem dX6_read_7 : decode cX6_read 7 = .ok (.ifCond .eq 9, 3) := by decide +kernel
theorem dX6_read_10 : decode cX6_read 10 = .ok (.aload_n 0, 1) := by decide +kernel
theorem dX6_read_11 : decode cX6_read 11 = .ok (.iload_n 2, 1) := by decide +kernel
theorem dX6_read_12 : decode cX6_read 12 = .ok (.invokevirtual 64, 3) := by decide +kernel
theorem dX6_read_15 : decode cX6_read 15 = .ok (.ireturn, 1) := by decide +kernel
theorem dX6_read_16 : decode cX6_read 16 = .ok (.aload_n 0, 1) := by decide +kernel
theorem dX6_read_17 : decode cX6_read 17 = .ok (.invokevirtual 183, 3) := by decide +kernel
theorem dX6_read_20 : decode cX6_read 20 = .ok (.iconst 0, 1) := by decide +kernel
theorem dX6_read_21 : decode cX6_read 21 = .ok (.istore_n 3, 1) := by decide +kernel
theorem dX6_read_22 : decode cX6_read 22 = .ok (.iconst 0, 1) := by decide +kernel
theorem dX6_read_23 : decode cX6_read 23 = .ok (.istore 4, 2) := by decide +kernel
theorem dX6_read_25 : decode cX6_read 25 = .ok (.iload 4, 2) := by decide +kernel
theorem dX6_read_27 : decode cX6_read 27 = .ok (.aload_n 0, 1) := by decide +kernel
theorem dX6_read_28 : decode cX6_read 28 = .ok (.getfield 34, 3) := by decide +kernel
theorem dX6_read_31 : decode cX6_read 31 = .ok (.iload_n 1, 1) := by decide +kernel
theorem dX6_read_32 : decode cX6_read 32 = .ok (.iaload, 1) := by decide +kernel
theorem dX6_read_33 : decode cX6_read 33 = .ok (.if_icmp .ge 116, 3) := by decide +kernel
theorem dX6_read_36 : decode cX6_read 36 = .ok (.iload_n 3, 1) := by decide +kernel
theorem dX6_read_37 : decode cX6_read 37 = .ok (.ifCond .ne 112, 3) := by decide +kernel
theorem dX6_read_40 : decode cX6_read 40 = .ok (.aload_n 0, 1) := by decide +kernel
theorem dX6_read_41 : decode cX6_read 41 = .ok (.getfield 37, 3) := by decide +kernel
theorem dX6_read_44 : decode cX6_read 44 = .ok (.bipush 40, 2) := by decide +kernel
theorem dX6_read_46 : decode cX6_read 46 = .ok (.iload_n 1, 1) := by decide +kernel
theorem dX6_read_47 : decode cX6_read 47 = .ok (.imul, 1) := by decide +kernel
theorem dX6_read_48 : decode cX6_read 48 = .ok (.iload 4, 2) := by decide +kernel
theorem dX6_read_50 : decode cX6_read 50 = .ok (.iadd, 1) := by decide +kernel
theorem dX6_read_51 : decode cX6_read 51 = .ok (.laload, 1) := by decide +kernel
theorem dX6_read_52 : decode cX6_read 52 = .ok (.lstore 5, 2) := by decide +kernel
theorem dX6_read_54 : decode cX6_read 54 = .ok (.lload 5, 2) := by decide +kernel
theorem dX6_read_56 : decode cX6_read 56 = .ok (.lconst 0, 1) := by decide +kernel
theorem dX6_read_57 : decode cX6_read 57 = .ok (.aload_n 0, 1) := by decide +kernel
theorem dX6_read_58 : decode cX6_read 58 = .ok (.getfield 7, 3) := by decide +kernel
theorem dX6_read_61 : decode cX6_read 61 = .ok (.iconst 0, 1) := by decide +kernel
theorem dX6_read_62 : decode cX6_read 62 = .ok (.iaload, 1) := by decide +kernel
theorem dX6_read_63 : decode cX6_read 63 = .ok (.iconst 1, 1) := by decide +kernel
theorem dX6_read_64 : decode cX6_read 64 = .ok (.isub, 1) := by decide +kernel
theorem dX6_read_65 : decode cX6_read 65 = .ok (.i2l, 1) := by decide +kernel
theorem dX6_read_66 : decode cX6_read 66 = .ok (.invokestatic 47, 3) := by decide +kernel
theorem dX6_read_69 : decode cX6_read 69 = .ok (.ifCond .eq 9, 3) := by decide +kernel
theorem dX6_read_72 : decode cX6_read 72 = .ok (.lload 5, 2) := by decide +kernel
theorem dX6_read_74 : decode cX6_read 74 = .ok (.l2i, 1) := by decide +kernel
theorem dX6_read_75 : decode cX6_read 75 = .ok (.goto 4, 3) := by decide +kernel
theorem dX6_read_78 : decode cX6_read 78 = .ok (.iconst (-1), 1) := by decide +kernel
theorem dX6_read_79 : decode cX6_read 79 = .ok (.istore 7, 2) := by decide +kernel
theorem dX6_read_81 : decode cX6_read 81 = .ok (.iload 7, 2) := by decide +kernel
theorem dX6_read_83 : decode cX6_read 83 = .ok (.ifCond .lt 25, 3) := by decide +kernel
theorem dX6_read_86 : decode cX6_read 86 = .ok (.aload_n 0, 1) := by decide +kernel
theorem dX6_read_87 : decode cX6_read 87 = .ok (.iload 7, 2) := by decide +kernel
theorem dX6_read_89 : decode cX6_read 89 = .ok (.invokevirtual 104, 3) := by decide +kernel
theorem dX6_read_92 : decode cX6_read 92 = .ok (.ifCond .eq 16, 3) := by decide +kernel
theorem dX6_read_95 : decode cX6_read 95 = .ok (.aload_n 0, 1) := by decide +kernel
theorem dX6_read_96 : decode cX6_read 96 = .ok (.iload 7, 2) := by decide +kernel
theorem dX6_read_98 : decode cX6_read 98 = .ok (.invokevirtual 134, 3) := by decide +kernel
theorem dX6_read_101 : decode cX6_read 101 = .ok (.ifCond .ne 7, 3) := by decide +kernel
theorem dX6_read_104 : decode cX6_read 104 = .ok (.iconst 1, 1) := by decide +kernel
theorem dX6_read_105 : decode cX6_read 105 = .ok (.goto 4, 3) := by decide +kernel
theorem dX6_read_108 : decode cX6_read 108 = .ok (.iconst 0, 1) := by decide +kernel
theorem dX6_read_109 : decode cX6_read 109 = .ok (.istore 8, 2) := by decide +kernel
theorem dX6_read_111 : decode cX6_read 111 = .ok (.iload 8, 2) := by decide +kernel
theorem dX6_read_113 : decode cX6_read 113 = .ok (.ifCond .eq 13, 3) := by decide +kernel
theorem dX6_read_116 : decode cX6_read 116 = .ok (.aload_n 0, 1) := by decide +kernel
theorem dX6_read_117 : decode cX6_read 117 = .ok (.iload 7, 2) := by decide +kernel
theorem dX6_read_119 : decode cX6_read 119 = .ok (.iconst 0, 1) := by decide +kernel
theorem dX6_read_120 : decode cX6_read 120 = .ok (.invokevirtual 157, 3) := by decide +kernel
theorem dX6_read_123 : decode cX6_read 123 = .ok (.goto 4, 3) := by decide +kernel
theorem dX6_read_126 : decode cX6_read 126 = .ok (.iconst 0, 1) := by decide +kernel
theorem dX6_read_127 : decode cX6_read 127 = .ok (.istore 9, 2) := by decide +kernel
theorem dX6_read_129 : decode cX6_read 129 = .ok (.iload 8, 2) := by decide +kernel
theorem dX6_read_131 : decode cX6_read 131 = .ok (.ifCond .eq 7, 3) := by decide +kernel
theorem dX6_read_134 : decode cX6_read 134 = .ok (.iconst 0, 1) := by decide +kernel
theorem dX6_read_135 : decode cX6_read 135 = .ok (.goto 7, 3) := by decide +kernel
theorem dX6_read_138 : decode cX6_read 138 = .ok (.iconst 1, 1) := by decide +kernel
theorem dX6_read_139 : decode cX6_read 139 = .ok (.iload 4, 2) := by decide +kernel
theorem dX6_read_141 : decode cX6_read 141 = .ok (.iadd, 1) := by decide +kernel
theorem dX6_read_142 : decode cX6_read 142 = .ok (.istore_n 3, 1) := by decide +kernel
theorem dX6_read_143 : decode cX6_read 143 = .ok (.iinc 4 1, 3) := by decide +kernel
theorem dX6_read_146 : decode cX6_read 146 = .ok (.goto (-121), 3) := by decide +kernel
theorem dX6_read_149 : decode cX6_read 149 = .ok (.aload_n 0, 1) := by decide +kernel
theorem dX6_read_150 : decode cX6_read 150 = .ok (.iload_n 3, 1) := by decide +kernel
theorem dX6_read_151 : decode cX6_read 151 = .ok (.invokevirtual 186, 3) := by decide +kernel
theorem dX6_read_154 : decode cX6_read 154 = .ok (.ireturn, 1) := by decide +kernel
theorem dX6_image_0 : decode cX6_image 0 = .ok (.iconst 0, 1) := by decide +kernel
theorem dX6_image_1 : decode cX6_image 1 = .ok (.istore_n 1, 1) := by decide +kernel
theorem dX6_image_2 : decode cX6_image 2 = .ok (.iload_n 1, 1) := by decide +kernel
theorem dX6_image_3 : decode cX6_image 3 = .ok (.bipush 63, 2) := by decide +kernel
theorem dX6_image_5 : decode cX6_image 5 = .ok (.if_icmp .ge 21, 3) := by decide +kernel
theorem dX6_image_8 : decode cX6_image 8 = .ok (.aload_n 0, 1) := by decide +kernel
theorem dX6_image_9 : decode cX6_image 9 = .ok (.getfield 13, 3) := by decide +kernel
theorem dX6_image_12 : decode cX6_image 12 = .ok (.iload_n 1, 1) := by decide +kernel
theorem dX6_image_13 : decode cX6_image 13 = .ok (.aload_n 0, 1) := by decide +kernel
theorem dX6_image_14 : decode cX6_image 14 = .ok (.getfield 7, 3) := by decide +kernel
theorem dX6_image_17 : decode cX6_image 17 = .ok (.iload_n 1, 1) := by decide +kernel
theorem dX6_image_18 : decode cX6_image 18 = .ok (.iaload, 1) := by decide +kernel
theorem dX6_image_19 : decode cX6_image 19 = .ok (.iastore, 1) := by decide +kernel
theorem dX6_image_20 : decode cX6_image 20 = .ok (.iinc 1 1, 3) := by decide +kernel
theorem dX6_image_23 : decode cX6_image 23 = .ok (.goto (-21), 3) := by decide +kernel
theorem dX6_image_26 : decode cX6_image 26 = .ok (.aload_n 0, 1) := by decide +kernel
theorem dX6_image_27 : decode cX6_image 27 = .ok (.iconst 1, 1) := by decide +kernel
theorem dX6_image_28 : decode cX6_image 28 = .ok (.putfield 307, 3) := by decide +kernel
theorem dX6_image_31 : decode cX6_image 31 = .ok (.iconst 1, 1) := by decide +kernel
theorem dX6_image_32 : decode cX6_image 32 = .ok (.ireturn, 1) := by decide +kernel
theorem dX6_undo_0 : decode cX6_undo 0 = .ok (.aload_n 0, 1) := by decide +kernel
theorem dX6_undo_1 : decode cX6_undo 1 = .ok (.getfield 307, 3) := by decide +kernel
theorem dX6_undo_4 : decode cX6_undo 4 = .ok (.ifCond .ne 10, 3) := by decide +kernel
theorem dX6_undo_7 : decode cX6_undo 7 = .ok (.aload_n 0, 1) := by decide +kernel
theorem dX6_undo_8 : decode cX6_undo 8 = .ok (.ldc 103, 2) := by decide +kernel
theorem dX6_undo_10 : decode cX6_undo 10 = .ok (.invokevirtual 64, 3) := by decide +kernel
theorem dX6_undo_13 : decode cX6_undo 13 = .ok (.ireturn, 1) := by decide +kernel
theorem dX6_undo_14 : decode cX6_undo 14 = .ok (.iconst 0, 1) := by decide +kernel
theorem dX6_undo_15 : decode cX6_undo 15 = .ok (.istore_n 1, 1) := by decide +kernel
theorem dX6_undo_16 : decode cX6_undo 16 = .ok (.iload_n 1, 1) := by decide +kernel
theorem dX6_undo_17 : decode cX6_undo 17 = .ok (.bipush 63, 2) := by decide +kernel
theorem dX6_undo_19 : decode cX6_undo 19 = .ok (.if_icmp .ge 21, 3) := by decide +kernel
theorem dX6_undo_22 : decode cX6_undo 22 = .ok (.aload_n 0, 1) := by decide +kernel
theorem dX6_undo_23 : decode cX6_undo 23 = .ok (.getfield 7, 3) := by decide +kernel
theorem dX6_undo_26 : decode cX6_undo 26 = .ok (.iload_n 1, 1) := by decide +kernel
theorem dX6_undo_27 : decode cX6_undo 27 = .ok (.aload_n 0, 1) := by decide +kernel
theorem dX6_undo_28 : decode cX6_undo 28 = .ok (.getfield 13, 3) := by decide +kernel
theorem dX6_undo_31 : decode cX6_undo 31 = .ok (.iload_n 1, 1) := by decide +kernel
theorem dX6_undo_32 : decode cX6_undo 32 = .ok (.iaload, 1) := by decide +kernel
theorem dX6_undo_33 : decode cX6_undo 33 = .ok (.iastore, 1) := by decide +kernel
theorem dX6_undo_34 : decode cX6_undo 34 = .ok (.iinc 1 1, 3) := by decide +kernel
theorem dX6_undo_37 : decode cX6_undo 37 = .ok (.goto (-21), 3) := by decide +kernel
theorem dX6_undo_40 : decode cX6_undo 40 = .ok (.aload_n 0, 1) := by decide +kernel
theorem dX6_undo_41 : decode cX6_undo 41 = .ok (.getfield 7, 3) := by decide +kernel
theorem dX6_undo_44 : decode cX6_undo 44 = .ok (.iconst 0, 1) := by decide +kernel
theorem dX6_undo_45 : decode cX6_undo 45 = .ok (.iaload, 1) := by decide +kernel
theorem dX6_undo_46 : decode cX6_undo 46 = .ok (.ireturn, 1) := by decide +kernel
theorem dX6_tear_0 : decode cX6_tear 0 = .ok (.aload_n 0, 1) := by decide +kernel
theorem dX6_tear_1 : decode cX6_tear 1 = .ok (.getfield 307, 3) := by decide +kernel
theorem dX6_tear_4 : decode cX6_tear 4 = .ok (.ifCond .eq 7, 3) := by decide +kernel
theorem dX6_tear_7 : decode cX6_tear 7 = .ok (.iconst 1, 1) := by decide +kernel
theorem dX6_tear_8 : decode cX6_tear 8 = .ok (.goto 4, 3) := by decide +kernel
theorem dX6_tear_11 : decode cX6_tear 11 = .ok (.iconst 0, 1) := by decide +kernel
theorem dX6_tear_12 : decode cX6_tear 12 = .ok (.istore_n 1, 1) := by decide +kernel
theorem dX6_tear_13 : decode cX6_tear 13 = .ok (.aload_n 0, 1) := by decide +kernel
theorem dX6_tear_14 : decode cX6_tear 14 = .ok (.iconst 0, 1) := by decide +kernel
theorem dX6_tear_15 : decode cX6_tear 15 = .ok (.putfield 307, 3) := by decide +kernel
theorem dX6_tear_18 : decode cX6_tear 18 = .ok (.iload_n 1, 1) := by decide +kernel
theorem dX6_tear_19 : decode cX6_tear 19 = .ok (.ireturn, 1) := by decide +kernel
theorem dX6_count_0 : decode cX6_count 0 = .ok (.iload_n 1, 1) := by decide +kernel
theorem dX6_count_1 : decode cX6_count 1 = .ok (.tableswitch 57 0 3 #[31, 38, 43, 51], 31) := by decide +kernel
theorem dX6_count_32 : decode cX6_count 32 = .ok (.aload_n 0, 1) := by decide +kernel
theorem dX6_count_33 : decode cX6_count 33 = .ok (.getfield 7, 3) := by decide +kernel
theorem dX6_count_36 : decode cX6_count 36 = .ok (.iconst 0, 1) := by decide +kernel
theorem dX6_count_37 : decode cX6_count 37 = .ok (.iaload, 1) := by decide +kernel
theorem dX6_count_38 : decode cX6_count 38 = .ok (.ireturn, 1) := by decide +kernel
theorem dX6_count_39 : decode cX6_count 39 = .ok (.aload_n 0, 1) := by decide +kernel
theorem dX6_count_40 : decode cX6_count 40 = .ok (.getfield 197, 3) := by decide +kernel
theorem dX6_count_43 : decode cX6_count 43 = .ok (.ireturn, 1) := by decide +kernel
theorem dX6_count_44 : decode cX6_count 44 = .ok (.aload_n 0, 1) := by decide +kernel
theorem dX6_count_45 : decode cX6_count 45 = .ok (.invokevirtual 117, 3) := by decide +kernel
theorem dX6_count_48 : decode cX6_count 48 = .ok (.invokestatic 121, 3) := by decide +kernel
theorem dX6_count_51 : decode cX6_count 51 = .ok (.ireturn, 1) := by decide +kernel
theorem dX6_count_52 : decode cX6_count 52 = .ok (.aload_n 0, 1) := by decide +kernel
theorem dX6_count_53 : decode cX6_count 53 = .ok (.iconst 2, 1) := by decide +kernel
theorem dX6_count_54 : decode cX6_count 54 = .ok (.invokevirtual 166, 3) := by decide +kernel
theorem dX6_count_57 : decode cX6_count 57 = .ok (.ireturn, 1) := by decide +kernel
theorem dX6_count_58 : decode cX6_count 58 = .ok (.aload_n 0, 1) := by decide +kernel
theorem dX6_count_59 : decode cX6_count 59 = .ok (.ldc 44, 2) := by decide +kernel
theorem dX6_count_61 : decode cX6_count 61 = .ok (.invokevirtual 64, 3) := by decide +kernel
theorem dX6_count_64 : decode cX6_count 64 = .ok (.ireturn, 1) := by decide +kernel
theorem dX6_status_0 : decode cX6_status 0 = .ok (.iload_n 1, 1) := by decide +kernel
theorem dX6_status_1 : decode cX6_status 1 = .ok (.i2l, 1) := by decide +kernel
theorem dX6_status_2 : decode cX6_status 2 = .ok (.ldc2_w 305, 3) := by decide +kernel
theorem dX6_status_5 : decode cX6_status 5 = .ok (.ldc2_w 75, 3) := by decide +kernel
theorem dX6_status_8 : decode cX6_status 8 = .ok (.invokestatic 47, 3) := by decide +kernel
theorem dX6_status_11 : decode cX6_status 11 = .ok (.ifCond .ne 10, 3) := by decide +kernel
theorem dX6_status_14 : decode cX6_status 14 = .ok (.aload_n 0, 1) := by decide +kernel
theorem dX6_status_15 : decode cX6_status 15 = .ok (.ldc 44, 2) := by decide +kernel
theorem dX6_status_17 : decode cX6_status 17 = .ok (.invokevirtual 64, 3) := by decide +kernel
theorem dX6_status_20 : decode cX6_status 20 = .ok (.ireturn, 1) := by decide +kernel
theorem dX6_status_21 : decode cX6_status 21 = .ok (.iconst 0, 1) := by decide +kernel
theorem dX6_status_22 : decode cX6_status 22 = .ok (.istore_n 2, 1) := by decide +kernel
theorem dX6_status_23 : decode cX6_status 23 = .ok (.iconst 0, 1) := by decide +kernel
theorem dX6_status_24 : decode cX6_status 24 = .ok (.istore_n 3, 1) := by decide +kernel
theorem dX6_status_25 : decode cX6_status 25 = .ok (.iload_n 3, 1) := by decide +kernel
theorem dX6_status_26 : decode cX6_status 26 = .ok (.bipush 7, 2) := by decide +kernel
theorem dX6_status_28 : decode cX6_status 28 = .ok (.if_icmp .ge 31, 3) := by decide +kernel
theorem dX6_status_31 : decode cX6_status 31 = .ok (.iload_n 2, 1) := by decide +kernel
theorem dX6_status_32 : decode cX6_status 32 = .ok (.iload_n 1, 1) := by decide +kernel
theorem dX6_status_33 : decode cX6_status 33 = .ok (.ifCond .lt 8, 3) := by decide +kernel
theorem dX6_status_36 : decode cX6_status 36 = .ok (.iload_n 3, 1) := by decide +kernel
theorem dX6_status_37 : decode cX6_status 37 = .ok (.iload_n 1, 1) := by decide +kernel
theorem dX6_status_38 : decode cX6_status 38 = .ok (.if_icmp .ne 12, 3) := by decide +kernel
theorem dX6_status_41 : decode cX6_status 41 = .ok (.aload_n 0, 1) := by decide +kernel
theorem dX6_status_42 : decode cX6_status 42 = .ok (.getfield 22, 3) := by decide +kernel
theorem dX6_status_45 : decode cX6_status 45 = .ok (.iload_n 3, 1) := by decide +kernel
theorem dX6_status_46 : decode cX6_status 46 = .ok (.iaload, 1) := by decide +kernel
theorem dX6_status_47 : decode cX6_status 47 = .ok (.goto 4, 3) := by decide +kernel
theorem dX6_status_50 : decode cX6_status 50 = .ok (.iconst 0, 1) := by decide +kernel
theorem dX6_status_51 : decode cX6_status 51 = .ok (.iadd, 1) := by decide +kernel
theorem dX6_status_52 : decode cX6_status 52 = .ok (.istore_n 2, 1) := by decide +kernel
theorem dX6_status_53 : decode cX6_status 53 = .ok (.iinc 3 1, 3) := by decide +kernel
theorem dX6_status_56 : decode cX6_status 56 = .ok (.goto (-31), 3) := by decide +kernel
theorem dX6_status_59 : decode cX6_status 59 = .ok (.iload_n 2, 1) := by decide +kernel
theorem dX6_status_60 : decode cX6_status 60 = .ok (.ireturn, 1) := by decide +kernel
