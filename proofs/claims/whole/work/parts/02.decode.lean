theorem dX0_init_0 : decode cX0_init 0 = .ok (.aload_n 0, 1) := by decide +kernel
theorem dX0_init_1 : decode cX0_init 1 = .ok (.invokespecial 3, 3) := by decide +kernel
theorem dX0_init_4 : decode cX0_init 4 = .ok (.aload_n 0, 1) := by decide +kernel
theorem dX0_init_5 : decode cX0_init 5 = .ok (.bipush 8, 2) := by decide +kernel
theorem dX0_init_7 : decode cX0_init 7 = .ok (.newarray .int, 2) := by decide +kernel
theorem dX0_init_9 : decode cX0_init 9 = .ok (.putfield 9, 3) := by decide +kernel
theorem dX0_init_12 : decode cX0_init 12 = .ok (.aload_n 0, 1) := by decide +kernel
theorem dX0_init_13 : decode cX0_init 13 = .ok (.bipush 8, 2) := by decide +kernel
theorem dX0_init_15 : decode cX0_init 15 = .ok (.newarray .int, 2) := by decide +kernel
theorem dX0_init_17 : decode cX0_init 17 = .ok (.putfield 15, 3) := by decide +kernel
theorem dX0_init_20 : decode cX0_init 20 = .ok (.return_, 1) := by decide +kernel
theorem dX0_append_0 : decode cX0_append 0 = .ok (.aload_n 0, 1) := by decide +kernel
theorem dX0_append_1 : decode cX0_append 1 = .ok (.getfield 18, 3) := by decide +kernel
theorem dX0_append_4 : decode cX0_append 4 = .ok (.bipush 8, 2) := by decide +kernel
theorem dX0_append_6 : decode cX0_append 6 = .ok (.if_icmp .ge 33, 3) := by decide +kernel
theorem dX0_append_9 : decode cX0_append 9 = .ok (.aload_n 0, 1) := by decide +kernel
theorem dX0_append_10 : decode cX0_append 10 = .ok (.getfield 9, 3) := by decide +kernel
theorem dX0_append_13 : decode cX0_append 13 = .ok (.aload_n 0, 1) := by decide +kernel
theorem dX0_append_14 : decode cX0_append 14 = .ok (.getfield 18, 3) := by decide +kernel
theorem dX0_append_17 : decode cX0_append 17 = .ok (.iload_n 1, 1) := by decide +kernel
theorem dX0_append_18 : decode cX0_append 18 = .ok (.iastore, 1) := by decide +kernel
theorem dX0_append_19 : decode cX0_append 19 = .ok (.aload_n 0, 1) := by decide +kernel
theorem dX0_append_20 : decode cX0_append 20 = .ok (.getfield 15, 3) := by decide +kernel
theorem dX0_append_23 : decode cX0_append 23 = .ok (.aload_n 0, 1) := by decide +kernel
theorem dX0_append_24 : decode cX0_append 24 = .ok (.getfield 18, 3) := by decide +kernel
theorem dX0_append_27 : decode cX0_append 27 = .ok (.iload_n 2, 1) := by decide +kernel
theorem dX0_append_28 : decode cX0_append 28 = .ok (.iastore, 1) := by decide +kernel
theorem dX0_append_29 : decode cX0_append 29 = .ok (.aload_n 0, 1) := by decide +kernel
theorem dX0_append_30 : decode cX0_append 30 = .ok (.dup, 1) := by decide +kernel
theorem dX0_append_31 : decode cX0_append 31 = .ok (.getfield 18, 3) := by decide +kernel
theorem dX0_append_34 : decode cX0_append 34 = .ok (.iconst 1, 1) := by decide +kernel
theorem dX0_append_35 : decode cX0_append 35 = .ok (.iadd, 1) := by decide +kernel
theorem dX0_append_36 : decode cX0_append 36 = .ok (.putfield 18, 3) := by decide +kernel
theorem dX0_append_39 : decode cX0_append 39 = .ok (.aload_n 0, 1) := by decide +kernel
theorem dX0_append_40 : decode cX0_append 40 = .ok (.getfield 18, 3) := by decide +kernel
theorem dX0_append_43 : decode cX0_append 43 = .ok (.ireturn, 1) := by decide +kernel
theorem dX0_dropLast_0 : decode cX0_dropLast 0 = .ok (.aload_n 0, 1) := by decide +kernel
theorem dX0_dropLast_1 : decode cX0_dropLast 1 = .ok (.getfield 18, 3) := by decide +kernel
theorem dX0_dropLast_4 : decode cX0_dropLast 4 = .ok (.ifCond .le 13, 3) := by decide +kernel
theorem dX0_dropLast_7 : decode cX0_dropLast 7 = .ok (.aload_n 0, 1) := by decide +kernel
theorem dX0_dropLast_8 : decode cX0_dropLast 8 = .ok (.dup, 1) := by decide +kernel
theorem dX0_dropLast_9 : decode cX0_dropLast 9 = .ok (.getfield 18, 3) := by decide +kernel
theorem dX0_dropLast_12 : decode cX0_dropLast 12 = .ok (.iconst 1, 1) := by decide +kernel
theorem dX0_dropLast_13 : decode cX0_dropLast 13 = .ok (.isub, 1) := by decide +kernel
theorem dX0_dropLast_14 : decode cX0_dropLast 14 = .ok (.putfield 18, 3) := by decide +kernel
theorem dX0_dropLast_17 : decode cX0_dropLast 17 = .ok (.aload_n 0, 1) := by decide +kernel
theorem dX0_dropLast_18 : decode cX0_dropLast 18 = .ok (.getfield 18, 3) := by decide +kernel
theorem dX0_dropLast_21 : decode cX0_dropLast 21 = .ok (.ireturn, 1) := by decide +kernel
theorem dX0_inviteAllBut_0 : decode cX0_inviteAllBut 0 = .ok (.aload_n 2, 1) := by decide +kernel
theorem dX0_inviteAllBut_1 : decode cX0_inviteAllBut 1 = .ok (.invokevirtual 22, 3) := by decide +kernel
theorem dX0_inviteAllBut_4 : decode cX0_inviteAllBut 4 = .ok (.iconst 0, 1) := by decide +kernel
theorem dX0_inviteAllBut_5 : decode cX0_inviteAllBut 5 = .ok (.istore_n 3, 1) := by decide +kernel
theorem dX0_inviteAllBut_6 : decode cX0_inviteAllBut 6 = .ok (.iload_n 3, 1) := by decide +kernel
theorem dX0_inviteAllBut_7 : decode cX0_inviteAllBut 7 = .ok (.aload_n 0, 1) := by decide +kernel
theorem dX0_inviteAllBut_8 : decode cX0_inviteAllBut 8 = .ok (.getfield 18, 3) := by decide +kernel
theorem dX0_inviteAllBut_11 : decode cX0_inviteAllBut 11 = .ok (.if_icmp .ge 33, 3) := by decide +kernel
theorem dX0_inviteAllBut_14 : decode cX0_inviteAllBut 14 = .ok (.iload_n 1, 1) := by decide +kernel
theorem dX0_inviteAllBut_15 : decode cX0_inviteAllBut 15 = .ok (.iload_n 3, 1) := by decide +kernel
theorem dX0_inviteAllBut_16 : decode cX0_inviteAllBut 16 = .ok (.ishr, 1) := by decide +kernel
theorem dX0_inviteAllBut_17 : decode cX0_inviteAllBut 17 = .ok (.iconst 1, 1) := by decide +kernel
theorem dX0_inviteAllBut_18 : decode cX0_inviteAllBut 18 = .ok (.iand, 1) := by decide +kernel
theorem dX0_inviteAllBut_19 : decode cX0_inviteAllBut 19 = .ok (.ifCond .ne 19, 3) := by decide +kernel
theorem dX0_inviteAllBut_22 : decode cX0_inviteAllBut 22 = .ok (.aload_n 2, 1) := by decide +kernel
theorem dX0_inviteAllBut_23 : decode cX0_inviteAllBut 23 = .ok (.aload_n 0, 1) := by decide +kernel
theorem dX0_inviteAllBut_24 : decode cX0_inviteAllBut 24 = .ok (.getfield 9, 3) := by decide +kernel
theorem dX0_inviteAllBut_27 : decode cX0_inviteAllBut 27 = .ok (.iload_n 3, 1) := by decide +kernel
theorem dX0_inviteAllBut_28 : decode cX0_inviteAllBut 28 = .ok (.iaload, 1) := by decide +kernel
theorem dX0_inviteAllBut_29 : decode cX0_inviteAllBut 29 = .ok (.aload_n 0, 1) := by decide +kernel
theorem dX0_inviteAllBut_30 : decode cX0_inviteAllBut 30 = .ok (.getfield 15, 3) := by decide +kernel
theorem dX0_inviteAllBut_33 : decode cX0_inviteAllBut 33 = .ok (.iload_n 3, 1) := by decide +kernel
theorem dX0_inviteAllBut_34 : decode cX0_inviteAllBut 34 = .ok (.iaload, 1) := by decide +kernel
theorem dX0_inviteAllBut_35 : decode cX0_inviteAllBut 35 = .ok (.invokevirtual 27, 3) := by decide +kernel
theorem dX0_inviteAllBut_38 : decode cX0_inviteAllBut 38 = .ok (.iinc 3 1, 3) := by decide +kernel
theorem dX0_inviteAllBut_41 : decode cX0_inviteAllBut 41 = .ok (.goto (-35), 3) := by decide +kernel
theorem dX0_inviteAllBut_44 : decode cX0_inviteAllBut 44 = .ok (.return_, 1) := by decide +kernel
theorem dX1_init_0 : decode cX1_init 0 = .ok (.aload_n 0, 1) := by decide +kernel
theorem dX1_init_1 : decode cX1_init 1 = .ok (.invokespecial 3, 3) := by decide +kernel
theorem dX1_init_4 : decode cX1_init 4 = .ok (.aload_n 0, 1) := by decide +kernel
theorem dX1_init_5 : decode cX1_init 5 = .ok (.bipush 8, 2) := by decide +kernel
theorem dX1_init_7 : decode cX1_init 7 = .ok (.newarray .int, 2) := by decide +kernel
theorem dX1_init_9 : decode cX1_init 9 = .ok (.putfield 9, 3) := by decide +kernel
theorem dX1_init_12 : decode cX1_init 12 = .ok (.aload_n 0, 1) := by decide +kernel
theorem dX1_init_13 : decode cX1_init 13 = .ok (.bipush 8, 2) := by decide +kernel
theorem dX1_init_15 : decode cX1_init 15 = .ok (.newarray .int, 2) := by decide +kernel
theorem dX1_init_17 : decode cX1_init 17 = .ok (.putfield 15, 3) := by decide +kernel
theorem dX1_init_20 : decode cX1_init 20 = .ok (.return_, 1) := by decide +kernel
theorem dX1_append_0 : decode cX1_append 0 = .ok (.aload_n 0, 1) := by decide +kernel
theorem dX1_append_1 : decode cX1_append 1 = .ok (.getfield 18, 3) := by decide +kernel
theorem dX1_append_4 : decode cX1_append 4 = .ok (.bipush 8, 2) := by decide +kernel
theorem dX1_append_6 : decode cX1_append 6 = .ok (.if_icmp .ge 33, 3) := by decide +kernel
theorem dX1_append_9 : decode cX1_append 9 = .ok (.aload_n 0, 1) := by decide +kernel
theorem dX1_append_10 : decode cX1_append 10 = .ok (.getfield 9, 3) := by decide +kernel
theorem dX1_append_13 : decode cX1_append 13 = .ok (.aload_n 0, 1) := by decide +kernel
theorem dX1_append_14 : decode cX1_append 14 = .ok (.getfield 18, 3) := by decide +kernel
theorem dX1_append_17 : decode cX1_append 17 = .ok (.iload_n 1, 1) := by decide +kernel
theorem dX1_append_18 : decode cX1_append 18 = .ok (.iastore, 1) := by decide +kernel
theorem dX1_append_19 : decode cX1_append 19 = .ok (.aload_n 0, 1) := by decide +kernel
theorem dX1_append_20 : decode cX1_append 20 = .ok (.getfield 15, 3) := by decide +kernel
theorem dX1_append_23 : decode cX1_append 23 = .ok (.aload_n 0, 1) := by decide +kernel
theorem dX1_append_24 : decode cX1_append 24 = .ok (.getfield 18, 3) := by decide +kernel
theorem dX1_append_27 : decode cX1_append 27 = .ok (.iload_n 2, 1) := by decide +kernel
theorem dX1_append_28 : decode cX1_append 28 = .ok (.iastore, 1) := by decide +kernel
theorem dX1_append_29 : decode cX1_append 29 = .ok (.aload_n 0, 1) := by decide +kernel
theorem dX1_append_30 : decode cX1_append 30 = .ok (.dup, 1) := by decide +kernel
theorem dX1_append_31 : decode cX1_append 31 = .ok (.getfield 18, 3) := by decide +kernel
theorem dX1_append_34 : decode cX1_append 34 = .ok (.iconst 1, 1) := by decide +kernel
theorem dX1_append_35 : decode cX1_append 35 = .ok (.iadd, 1) := by decide +kernel
theorem dX1_append_36 : decode cX1_append 36 = .ok (.putfield 18, 3) := by decide +kernel
theorem dX1_append_39 : decode cX1_append 39 = .ok (.aload_n 0, 1) := by decide +kernel
theorem dX1_append_40 : decode cX1_append 40 = .ok (.getfield 18, 3) := by decide +kernel
theorem dX1_append_43 : decode cX1_append 43 = .ok (.ireturn, 1) := by decide +kernel
theorem dX1_clear_0 : decode cX1_clear 0 = .ok (.aload_n 0, 1) := by decide +kernel
theorem dX1_clear_1 : decode cX1_clear 1 = .ok (.getfield 18, 3) := by decide +kernel
theorem dX1_clear_4 : decode cX1_clear 4 = .ok (.istore_n 1, 1) := by decide +kernel
theorem dX1_clear_5 : decode cX1_clear 5 = .ok (.aload_n 0, 1) := by decide +kernel
theorem dX1_clear_6 : decode cX1_clear 6 = .ok (.iconst 0, 1) := by decide +kernel
theorem dX1_clear_7 : decode cX1_clear 7 = .ok (.putfield 18, 3) := by decide +kernel
theorem dX1_clear_10 : decode cX1_clear 10 = .ok (.iload_n 1, 1) := by decide +kernel
theorem dX1_clear_11 : decode cX1_clear 11 = .ok (.ireturn, 1) := by decide +kernel
theorem dX1_fits_0 : decode cX1_fits 0 = .ok (.iconst 0, 1) := by decide +kernel
theorem dX1_fits_1 : decode cX1_fits 1 = .ok (.istore_n 2, 1) := by decide +kernel
theorem dX1_fits_2 : decode cX1_fits 2 = .ok (.iload_n 2, 1) := by decide +kernel
theorem dX1_fits_3 : decode cX1_fits 3 = .ok (.aload_n 0, 1) := by decide +kernel
theorem dX1_fits_4 : decode cX1_fits 4 = .ok (.getfield 18, 3) := by decide +kernel
theorem dX1_fits_7 : decode cX1_fits 7 = .ok (.if_icmp .ge 30, 3) := by decide +kernel
theorem dX1_fits_10 : decode cX1_fits 10 = .ok (.aload_n 1, 1) := by decide +kernel
theorem dX1_fits_11 : decode cX1_fits 11 = .ok (.aload_n 0, 1) := by decide +kernel
theorem dX1_fits_12 : decode cX1_fits 12 = .ok (.getfield 9, 3) := by decide +kernel
theorem dX1_fits_15 : decode cX1_fits 15 = .ok (.iload_n 2, 1) := by decide +kernel
theorem dX1_fits_16 : decode cX1_fits 16 = .ok (.iaload, 1) := by decide +kernel
theorem dX1_fits_17 : decode cX1_fits 17 = .ok (.invokevirtual 22, 3) := by decide +kernel
theorem dX1_fits_20 : decode cX1_fits 20 = .ok (.aload_n 0, 1) := by decide +kernel
theorem dX1_fits_21 : decode cX1_fits 21 = .ok (.getfield 15, 3) := by decide +kernel
theorem dX1_fits_24 : decode cX1_fits 24 = .ok (.iload_n 2, 1) := by decide +kernel
theorem dX1_fits_25 : decode cX1_fits 25 = .ok (.iaload, 1) := by decide +kernel
theorem dX1_fits_26 : decode cX1_fits 26 = .ok (.if_icmp .eq 5, 3) := by decide +kernel
theorem dX1_fits_29 : decode cX1_fits 29 = .ok (.iconst 0, 1) := by decide +kernel
theorem dX1_fits_30 : decode cX1_fits 30 = .ok (.ireturn, 1) := by decide +kernel
theorem dX1_fits_31 : decode cX1_fits 31 = .ok (.iinc 2 1, 3) := by decide +kernel
theorem dX1_fits_34 : decode cX1_fits 34 = .ok (.goto (-32), 3) := by decide +kernel
theorem dX1_fits_37 : decode cX1_fits 37 = .ok (.iconst 1, 1) := by decide +kernel
theorem dX1_fits_38 : decode cX1_fits 38 = .ok (.ireturn, 1) := by decide +kernel
theorem dX2_init_0 : decode cX2_init 0 = .ok (.aload_n 0, 1) := by decide +kernel
theorem dX2_init_1 : decode cX2_init 1 = .ok (.invokespecial 3, 3) := by decide +kernel
theorem dX2_init_4 : decode cX2_init 4 = .ok (.aload_n 0, 1) := by decide +kernel
theorem dX2_init_5 : decode cX2_init 5 = .ok (.bipush 8, 2) := by decide +kernel
theorem dX2_init_7 : decode cX2_init 7 = .ok (.newarray .int, 2) := by decide +kernel
theorem dX2_init_9 : decode cX2_init 9 = .ok (.putfield 9, 3) := by decide +kernel
theorem dX2_init_12 : decode cX2_init 12 = .ok (.aload_n 0, 1) := by decide +kernel
theorem dX2_init_13 : decode cX2_init 13 = .ok (.bipush 8, 2) := by decide +kernel
theorem dX2_init_15 : decode cX2_init 15 = .ok (.newarray .int, 2) := by decide +kernel
theorem dX2_init_17 : decode cX2_init 17 = .ok (.putfield 15, 3) := by decide +kernel
theorem dX2_init_20 : decode cX2_init 20 = .ok (.aload_n 0, 1) := by decide +kernel
theorem dX2_init_21 : decode cX2_init 21 = .ok (.bipush 8, 2) := by decide +kernel
theorem dX2_init_23 : decode cX2_init 23 = .ok (.newarray .int, 2) := by decide +kernel
theorem dX2_init_25 : decode cX2_init 25 = .ok (.putfield 18, 3) := by decide +kernel
theorem dX2_init_28 : decode cX2_init 28 = .ok (.aload_n 0, 1) := by decide +kernel
theorem dX2_init_29 : decode cX2_init 29 = .ok (.bipush 8, 2) := by decide +kernel
theorem dX2_init_31 : decode cX2_init 31 = .ok (.newarray .int, 2) := by decide +kernel
theorem dX2_init_33 : decode cX2_init 33 = .ok (.putfield 21, 3) := by decide +kernel
theorem dX2_init_36 : decode cX2_init 36 = .ok (.aload_n 0, 1) := by decide +kernel
theorem dX2_init_37 : decode cX2_init 37 = .ok (.bipush 8, 2) := by decide +kernel
theorem dX2_init_39 : decode cX2_init 39 = .ok (.newarray .int, 2) := by decide +kernel
theorem dX2_init_41 : decode cX2_init 41 = .ok (.putfield 24, 3) := by decide +kernel
theorem dX2_init_44 : decode cX2_init 44 = .ok (.aload_n 0, 1) := by decide +kernel
theorem dX2_init_45 : decode cX2_init 45 = .ok (.iconst 4, 1) := by decide +kernel
theorem dX2_init_46 : decode cX2_init 46 = .ok (.newarray .int, 2) := by decide +kernel
theorem dX2_init_48 : decode cX2_init 48 = .ok (.putfield 27, 3) := by decide +kernel
theorem dX2_init_51 : decode cX2_init 51 = .ok (.aload_n 0, 1) := by decide +kernel
theorem dX2_init_52 : decode cX2_init 52 = .ok (.iconst 4, 1) := by decide +kernel
theorem dX2_init_53 : decode cX2_init 53 = .ok (.newarray .int, 2) := by decide +kernel
theorem dX2_init_55 : decode cX2_init 55 = .ok (.putfield 30, 3) := by decide +kernel
theorem dX2_init_58 : decode cX2_init 58 = .ok (.aload_n 0, 1) := by decide +kernel
theorem dX2_init_59 : decode cX2_init 59 = .ok (.iconst 4, 1) := by decide +kernel
theorem dX2_init_60 : decode cX2_init 60 = .ok (.newarray .int, 2) := by decide +kernel
theorem dX2_init_62 : decode cX2_init 62 = .ok (.putfield 33, 3) := by decide +kernel
theorem dX2_init_65 : decode cX2_init 65 = .ok (.aload_n 0, 1) := by decide +kernel
theorem dX2_init_66 : decode cX2_init 66 = .ok (.bipush 24, 2) := by decide +kernel
theorem dX2_init_68 : decode cX2_init 68 = .ok (.newarray .int, 2) := by decide +kernel
theorem dX2_init_70 : decode cX2_init 70 = .ok (.putfield 36, 3) := by decide +kernel
theorem dX2_init_73 : decode cX2_init 73 = .ok (.aload_n 0, 1) := by decide +kernel
theorem dX2_init_74 : decode cX2_init 74 = .ok (.bipush 8, 2) := by decide +kernel
theorem dX2_init_76 : decode cX2_init 76 = .ok (.newarray .int, 2) := by decide +kernel
theorem dX2_init_78 : decode cX2_init 78 = .ok (.putfield 39, 3) := by decide +kernel
theorem dX2_init_81 : decode cX2_init 81 = .ok (.aload_n 0, 1) := by decide +kernel
theorem dX2_init_82 : decode cX2_init 82 = .ok (.bipush 8, 2) := by decide +kernel
theorem dX2_init_84 : decode cX2_init 84 = .ok (.newarray .int, 2) := by decide +kernel
theorem dX2_init_86 : decode cX2_init 86 = .ok (.putfield 42, 3) := by decide +kernel
theorem dX2_init_89 : decode cX2_init 89 = .ok (.aload_n 0, 1) := by decide +kernel
theorem dX2_init_90 : decode cX2_init 90 = .ok (.bipush 8, 2) := by decide +kernel
theorem dX2_init_92 : decode cX2_init 92 = .ok (.newarray .int, 2) := by decide +kernel
theorem dX2_init_94 : decode cX2_init 94 = .ok (.putfield 45, 3) := by decide +kernel
theorem dX2_init_97 : decode cX2_init 97 = .ok (.return_, 1) := by decide +kernel
theorem dX2_hasCaller_0 : decode cX2_hasCaller 0 = .ok (.iload_n 1, 1) := by decide +kernel
theorem dX2_hasCaller_1 : decode cX2_hasCaller 1 = .ok (.iconst 0, 1) := by decide +kernel
theorem dX2_hasCaller_2 : decode cX2_hasCaller 2 = .ok (.aload_n 0, 1) := by decide +kernel
theorem dX2_hasCaller_3 : decode cX2_hasCaller 3 = .ok (.getfield 48, 3) := by decide +kernel
theorem dX2_hasCaller_6 : decode cX2_hasCaller 6 = .ok (.iconst 1, 1) := by decide +kernel
theorem dX2_hasCaller_7 : decode cX2_hasCaller 7 = .ok (.isub, 1) := by decide +kernel
theorem dX2_hasCaller_8 : decode cX2_hasCaller 8 = .ok (.invokestatic 52, 3) := by decide +kernel
theorem dX2_hasCaller_11 : decode cX2_hasCaller 11 = .ok (.ireturn, 1) := by decide +kernel
theorem dX2_hasMan_0 : decode cX2_hasMan 0 = .ok (.iload_n 1, 1) := by decide +kernel
theorem dX2_hasMan_1 : decode cX2_hasMan 1 = .ok (.iconst 0, 1) := by decide +kernel
theorem dX2_hasMan_2 : decode cX2_hasMan 2 = .ok (.aload_n 0, 1) := by decide +kernel
theorem dX2_hasMan_3 : decode cX2_hasMan 3 = .ok (.getfield 56, 3) := by decide +kernel
theorem dX2_hasMan_6 : decode cX2_hasMan 6 = .ok (.iconst 1, 1) := by decide +kernel
theorem dX2_hasMan_7 : decode cX2_hasMan 7 = .ok (.isub, 1) := by decide +kernel
theorem dX2_hasMan_8 : decode cX2_hasMan 8 = .ok (.invokestatic 52, 3) := by decide +kernel
theorem dX2_hasMan_11 : decode cX2_hasMan 11 = .ok (.ireturn, 1) := by decide +kernel
theorem dX2_takeCallers_0 : decode cX2_takeCallers 0 = .ok (.aload_n 0, 1) := by decide +kernel
theorem dX2_takeCallers_1 : decode cX2_takeCallers 1 = .ok (.iload_n 2, 1) := by decide +kernel
theorem dX2_takeCallers_2 : decode cX2_takeCallers 2 = .ok (.bipush 8, 2) := by decide +kernel
theorem dX2_takeCallers_4 : decode cX2_takeCallers 4 = .ok (.invokestatic 59, 3) := by decide +kernel
theorem dX2_takeCallers_7 : decode cX2_takeCallers 7 = .ok (.putfield 48, 3) := by decide +kernel
theorem dX2_takeCallers_10 : decode cX2_takeCallers 10 = .ok (.iconst 0, 1) := by decide +kernel
theorem dX2_takeCallers_11 : decode cX2_takeCallers 11 = .ok (.istore_n 3, 1) := by decide +kernel
theorem dX2_takeCallers_12 : decode cX2_takeCallers 12 = .ok (.iload_n 3, 1) := by decide +kernel
theorem dX2_takeCallers_13 : decode cX2_takeCallers 13 = .ok (.aload_n 0, 1) := by decide +kernel
theorem dX2_takeCallers_14 : decode cX2_takeCallers 14 = .ok (.getfield 48, 3) := by decide +kernel
theorem dX2_takeCallers_17 : decode cX2_takeCallers 17 = .ok (.if_icmp .ge 57, 3) := by decide +kernel
theorem dX2_takeCallers_20 : decode cX2_takeCallers 20 = .ok (.aload_n 0, 1) := by decide +kernel
theorem dX2_takeCallers_21 : decode cX2_takeCallers 21 = .ok (.getfield 9, 3) := by decide +kernel
theorem dX2_takeCallers_24 : decode cX2_takeCallers 24 = .ok (.iload_n 3, 1) := by decide +kernel
theorem dX2_takeCallers_25 : decode cX2_takeCallers 25 = .ok (.aload_n 1, 1) := by decide +kernel
theorem dX2_takeCallers_26 : decode cX2_takeCallers 26 = .ok (.iload_n 3, 1) := by decide +kernel
theorem dX2_takeCallers_27 : decode cX2_takeCallers 27 = .ok (.iconst 0, 1) := by decide +kernel
theorem dX2_takeCallers_28 : decode cX2_takeCallers 28 = .ok (.invokevirtual 65, 3) := by decide +kernel
theorem dX2_takeCallers_31 : decode cX2_takeCallers 31 = .ok (.iastore, 1) := by decide +kernel
theorem dX2_takeCallers_32 : decode cX2_takeCallers 32 = .ok (.aload_n 0, 1) := by decide +kernel
theorem dX2_takeCallers_33 : decode cX2_takeCallers 33 = .ok (.getfield 15, 3) := by decide +kernel
theorem dX2_takeCallers_36 : decode cX2_takeCallers 36 = .ok (.iload_n 3, 1) := by decide +kernel
theorem dX2_takeCallers_37 : decode cX2_takeCallers 37 = .ok (.aload_n 1, 1) := by decide +kernel
theorem dX2_takeCallers_38 : decode cX2_takeCallers 38 = .ok (.iload_n 3, 1) := by decide +kernel
theorem dX2_takeCallers_39 : decode cX2_takeCallers 39 = .ok (.iconst 1, 1) := by decide +kernel
theorem dX2_takeCallers_40 : decode cX2_takeCallers 40 = .ok (.invokevirtual 65, 3) := by decide +kernel
theorem dX2_takeCallers_43 : decode cX2_takeCallers 43 = .ok (.iastore, 1) := by decide +kernel
theorem dX2_takeCallers_44 : decode cX2_takeCallers 44 = .ok (.aload_n 0, 1) := by decide +kernel
theorem dX2_takeCallers_45 : decode cX2_takeCallers 45 = .ok (.getfield 18, 3) := by decide +kernel
theorem dX2_takeCallers_48 : decode cX2_takeCallers 48 = .ok (.iload_n 3, 1) := by decide +kernel
theorem dX2_takeCallers_49 : decode cX2_takeCallers 49 = .ok (.aload_n 1, 1) := by decide +kernel
theorem dX2_takeCallers_50 : decode cX2_takeCallers 50 = .ok (.iload_n 3, 1) := by decide +kernel
theorem dX2_takeCallers_51 : decode cX2_takeCallers 51 = .ok (.iconst 2, 1) := by decide +kernel
theorem dX2_takeCallers_52 : decode cX2_takeCallers 52 = .ok (.invokevirtual 65, 3) := by decide +kernel
theorem dX2_takeCallers_55 : decode cX2_takeCallers 55 = .ok (.iastore, 1) := by decide +kernel
theorem dX2_takeCallers_56 : decode cX2_takeCallers 56 = .ok (.aload_n 0, 1) := by decide +kernel
theorem dX2_takeCallers_57 : decode cX2_takeCallers 57 = .ok (.getfield 21, 3) := by decide +kernel
theorem dX2_takeCallers_60 : decode cX2_takeCallers 60 = .ok (.iload_n 3, 1) := by decide +kernel
theorem dX2_takeCallers_61 : decode cX2_takeCallers 61 = .ok (.aload_n 1, 1) := by decide +kernel
theorem dX2_takeCallers_62 : decode cX2_takeCallers 62 = .ok (.iload_n 3, 1) := by decide +kernel
theorem dX2_takeCallers_63 : decode cX2_takeCallers 63 = .ok (.iconst 3, 1) := by decide +kernel
theorem dX2_takeCallers_64 : decode cX2_takeCallers 64 = .ok (.invokevirtual 65, 3) := by decide +kernel
theorem dX2_takeCallers_67 : decode cX2_takeCallers 67 = .ok (.iastore, 1) := by decide +kernel
theorem dX2_takeCallers_68 : decode cX2_takeCallers 68 = .ok (.iinc 3 1, 3) := by decide +kernel
theorem dX2_takeCallers_71 : decode cX2_takeCallers 71 = .ok (.goto (-59), 3) := by decide +kernel
theorem dX2_takeCallers_74 : decode cX2_takeCallers 74 = .ok (.return_, 1) := by decide +kernel
theorem dX2_takeMen_0 : decode cX2_takeMen 0 = .ok (.aload_n 0, 1) := by decide +kernel
theorem dX2_takeMen_1 : decode cX2_takeMen 1 = .ok (.iload_n 2, 1) := by decide +kernel
theorem dX2_takeMen_2 : decode cX2_takeMen 2 = .ok (.iconst 4, 1) := by decide +kernel
theorem dX2_takeMen_3 : decode cX2_takeMen 3 = .ok (.invokestatic 59, 3) := by decide +kernel
theorem dX2_takeMen_6 : decode cX2_takeMen 6 = .ok (.putfield 56, 3) := by decide +kernel
theorem dX2_takeMen_9 : decode cX2_takeMen 9 = .ok (.iconst 0, 1) := by decide +kernel
theorem dX2_takeMen_10 : decode cX2_takeMen 10 = .ok (.istore_n 3, 1) := by decide +kernel
theorem dX2_takeMen_11 : decode cX2_takeMen 11 = .ok (.iload_n 3, 1) := by decide +kernel
theorem dX2_takeMen_12 : decode cX2_takeMen 12 = .ok (.aload_n 0, 1) := by decide +kernel
theorem dX2_takeMen_13 : decode cX2_takeMen 13 = .ok (.getfield 56, 3) := by decide +kernel
theorem dX2_takeMen_16 : decode cX2_takeMen 16 = .ok (.if_icmp .ge 45, 3) := by decide +kernel
theorem dX2_takeMen_19 : decode cX2_takeMen 19 = .ok (.aload_n 0, 1) := by decide +kernel
theorem dX2_takeMen_20 : decode cX2_takeMen 20 = .ok (.getfield 27, 3) := by decide +kernel
theorem dX2_takeMen_23 : decode cX2_takeMen 23 = .ok (.iload_n 3, 1) := by decide +kernel
theorem dX2_takeMen_24 : decode cX2_takeMen 24 = .ok (.aload_n 1, 1) := by decide +kernel
theorem dX2_takeMen_25 : decode cX2_takeMen 25 = .ok (.iload_n 3, 1) := by decide +kernel
theorem dX2_takeMen_26 : decode cX2_takeMen 26 = .ok (.iconst 0, 1) := by decide +kernel
theorem dX2_takeMen_27 : decode cX2_takeMen 27 = .ok (.invokevirtual 65, 3) := by decide +kernel
theorem dX2_takeMen_30 : decode cX2_takeMen 30 = .ok (.iastore, 1) := by decide +kernel
theorem dX2_takeMen_31 : decode cX2_takeMen 31 = .ok (.aload_n 0, 1) := by decide +kernel
theorem dX2_takeMen_32 : decode cX2_takeMen 32 = .ok (.getfield 30, 3) := by decide +kernel
theorem dX2_takeMen_35 : decode cX2_takeMen 35 = .ok (.iload_n 3, 1) := by decide +kernel
theorem dX2_takeMen_36 : decode cX2_takeMen 36 = .ok (.aload_n 1, 1) := by decide +kernel
theorem dX2_takeMen_37 : decode cX2_takeMen 37 = .ok (.iload_n 3, 1) := by decide +kernel
theorem dX2_takeMen_38 : decode cX2_takeMen 38 = .ok (.iconst 1, 1) := by decide +kernel
theorem dX2_takeMen_39 : decode cX2_takeMen 39 = .ok (.invokevirtual 65, 3) := by decide +kernel
theorem dX2_takeMen_42 : decode cX2_takeMen 42 = .ok (.iastore, 1) := by decide +kernel
theorem dX2_takeMen_43 : decode cX2_takeMen 43 = .ok (.aload_n 0, 1) := by decide +kernel
theorem dX2_takeMen_44 : decode cX2_takeMen 44 = .ok (.getfield 33, 3) := by decide +kernel
theorem dX2_takeMen_47 : decode cX2_takeMen 47 = .ok (.iload_n 3, 1) := by decide +kernel
theorem dX2_takeMen_48 : decode cX2_takeMen 48 = .ok (.aload_n 1, 1) := by decide +kernel
theorem dX2_takeMen_49 : decode cX2_takeMen 49 = .ok (.iload_n 3, 1) := by decide +kernel
theorem dX2_takeMen_50 : decode cX2_takeMen 50 = .ok (.iconst 2, 1) := by decide +kernel
theorem dX2_takeMen_51 : decode cX2_takeMen 51 = .ok (.invokevirtual 65, 3) := by decide +kernel
theorem dX2_takeMen_54 : decode cX2_takeMen 54 = .ok (.iastore, 1) := by decide +kernel
theorem dX2_takeMen_55 : decode cX2_takeMen 55 = .ok (.iinc 3 1, 3) := by decide +kernel
theorem dX2_takeMen_58 : decode cX2_takeMen 58 = .ok (.goto (-47), 3) := by decide +kernel
theorem dX2_takeMen_61 : decode cX2_takeMen 61 = .ok (.return_, 1) := by decide +kernel
theorem dX2_become_0 : decode cX2_become 0 = .ok (.aload_n 0, 1) := by decide +kernel
theorem dX2_become_1 : decode cX2_become 1 = .ok (.aload_n 1, 1) := by decide +kernel
theorem dX2_become_2 : decode cX2_become 2 = .ok (.getfield 48, 3) := by decide +kernel
theorem dX2_become_5 : decode cX2_become 5 = .ok (.putfield 48, 3) := by decide +kernel
theorem dX2_become_8 : decode cX2_become 8 = .ok (.aload_n 0, 1) := by decide +kernel
theorem dX2_become_9 : decode cX2_become 9 = .ok (.aload_n 1, 1) := by decide +kernel
theorem dX2_become_10 : decode cX2_become 10 = .ok (.getfield 56, 3) := by decide +kernel
theorem dX2_become_13 : decode cX2_become 13 = .ok (.putfield 56, 3) := by decide +kernel
theorem dX2_become_16 : decode cX2_become 16 = .ok (.iconst 0, 1) := by decide +kernel
theorem dX2_become_17 : decode cX2_become 17 = .ok (.istore_n 2, 1) := by decide +kernel
theorem dX2_become_18 : decode cX2_become 18 = .ok (.iload_n 2, 1) := by decide +kernel
theorem dX2_become_19 : decode cX2_become 19 = .ok (.aload_n 0, 1) := by decide +kernel
theorem dX2_become_20 : decode cX2_become 20 = .ok (.getfield 48, 3) := by decide +kernel
theorem dX2_become_23 : decode cX2_become 23 = .ok (.if_icmp .ge 69, 3) := by decide +kernel
theorem dX2_become_26 : decode cX2_become 26 = .ok (.aload_n 0, 1) := by decide +kernel
theorem dX2_become_27 : decode cX2_become 27 = .ok (.getfield 9, 3) := by decide +kernel
theorem dX2_become_30 : decode cX2_become 30 = .ok (.iload_n 2, 1) := by decide +kernel
theorem dX2_become_31 : decode cX2_become 31 = .ok (.aload_n 1, 1) := by decide +kernel
theorem dX2_become_32 : decode cX2_become 32 = .ok (.getfield 9, 3) := by decide +kernel
theorem dX2_become_35 : decode cX2_become 35 = .ok (.iload_n 2, 1) := by decide +kernel
theorem dX2_become_36 : decode cX2_become 36 = .ok (.iaload, 1) := by decide +kernel
theorem dX2_become_37 : decode cX2_become 37 = .ok (.iastore, 1) := by decide +kernel
theorem dX2_become_38 : decode cX2_become 38 = .ok (.aload_n 0, 1) := by decide +kernel
theorem dX2_become_39 : decode cX2_become 39 = .ok (.getfield 15, 3) := by decide +kernel
theorem dX2_become_42 : decode cX2_become 42 = .ok (.iload_n 2, 1) := by decide +kernel
theorem dX2_become_43 : decode cX2_become 43 = .ok (.aload_n 1, 1) := by decide +kernel
theorem dX2_become_44 : decode cX2_become 44 = .ok (.getfield 15, 3) := by decide +kernel
theorem dX2_become_47 : decode cX2_become 47 = .ok (.iload_n 2, 1) := by decide +kernel
theorem dX2_become_48 : decode cX2_become 48 = .ok (.iaload, 1) := by decide +kernel
theorem dX2_become_49 : decode cX2_become 49 = .ok (.iastore, 1) := by decide +kernel
theorem dX2_become_50 : decode cX2_become 50 = .ok (.aload_n 0, 1) := by decide +kernel
theorem dX2_become_51 : decode cX2_become 51 = .ok (.getfield 18, 3) := by decide +kernel
theorem dX2_become_54 : decode cX2_become 54 = .ok (.iload_n 2, 1) := by decide +kernel
theorem dX2_become_55 : decode cX2_become 55 = .ok (.aload_n 1, 1) := by decide +kernel
theorem dX2_become_56 : decode cX2_become 56 = .ok (.getfield 18, 3) := by decide +kernel
theorem dX2_become_59 : decode cX2_become 59 = .ok (.iload_n 2, 1) := by decide +kernel
theorem dX2_become_60 : decode cX2_become 60 = .ok (.iaload, 1) := by decide +kernel
theorem dX2_become_61 : decode cX2_become 61 = .ok (.iastore, 1) := by decide +kernel
theorem dX2_become_62 : decode cX2_become 62 = .ok (.aload_n 0, 1) := by decide +kernel
theorem dX2_become_63 : decode cX2_become 63 = .ok (.getfield 21, 3) := by decide +kernel
theorem dX2_become_66 : decode cX2_become 66 = .ok (.iload_n 2, 1) := by decide +kernel
theorem dX2_become_67 : decode cX2_become 67 = .ok (.aload_n 1, 1) := by decide +kernel
theorem dX2_become_68 : decode cX2_become 68 = .ok (.getfield 21, 3) := by decide +kernel
theorem dX2_become_71 : decode cX2_become 71 = .ok (.iload_n 2, 1) := by decide +kernel
theorem dX2_become_72 : decode cX2_become 72 = .ok (.iaload, 1) := by decide +kernel
theorem dX2_become_73 : decode cX2_become 73 = .ok (.iastore, 1) := by decide +kernel
theorem dX2_become_74 : decode cX2_become 74 = .ok (.aload_n 0, 1) := by decide +kernel
theorem dX2_become_75 : decode cX2_become 75 = .ok (.getfield 24, 3) := by decide +kernel
theorem dX2_become_78 : decode cX2_become 78 = .ok (.iload_n 2, 1) := by decide +kernel
theorem dX2_become_79 : decode cX2_become 79 = .ok (.aload_n 1, 1) := by decide +kernel
theorem dX2_become_80 : decode cX2_become 80 = .ok (.getfield 24, 3) := by decide +kernel
theorem dX2_become_83 : decode cX2_become 83 = .ok (.iload_n 2, 1) := by decide +kernel
theorem dX2_become_84 : decode cX2_become 84 = .ok (.iaload, 1) := by decide +kernel
theorem dX2_become_85 : decode cX2_become 85 = .ok (.iastore, 1) := by decide +kernel
theorem dX2_become_86 : decode cX2_become 86 = .ok (.iinc 2 1, 3) := by decide +kernel
theorem dX2_become_89 : decode cX2_become 89 = .ok (.goto (-71), 3) := by decide +kernel
theorem dX2_become_92 : decode cX2_become 92 = .ok (.iconst 0, 1) := by decide +kernel
theorem dX2_become_93 : decode cX2_become 93 = .ok (.istore_n 2, 1) := by decide +kernel
theorem dX2_become_94 : decode cX2_become 94 = .ok (.iload_n 2, 1) := by decide +kernel
theorem dX2_become_95 : decode cX2_become 95 = .ok (.aload_n 0, 1) := by decide +kernel
theorem dX2_become_96 : decode cX2_become 96 = .ok (.getfield 56, 3) := by decide +kernel
theorem dX2_become_99 : decode cX2_become 99 = .ok (.if_icmp .ge 45, 3) := by decide +kernel
theorem dX2_become_102 : decode cX2_become 102 = .ok (.aload_n 0, 1) := by decide +kernel
theorem dX2_become_103 : decode cX2_become 103 = .ok (.getfield 27, 3) := by decide +kernel
theorem dX2_become_106 : decode cX2_become 106 = .ok (.iload_n 2, 1) := by decide +kernel
theorem dX2_become_107 : decode cX2_become 107 = .ok (.aload_n 1, 1) := by decide +kernel
theorem dX2_become_108 : decode cX2_become 108 = .ok (.getfield 27, 3) := by decide +kernel
theorem dX2_become_111 : decode cX2_become 111 = .ok (.iload_n 2, 1) := by decide +kernel
theorem dX2_become_112 : decode cX2_become 112 = .ok (.iaload, 1) := by decide +kernel
theorem dX2_become_113 : decode cX2_become 113 = .ok (.iastore, 1) := by decide +kernel
theorem dX2_become_114 : decode cX2_become 114 = .ok (.aload_n 0, 1) := by decide +kernel
theorem dX2_become_115 : decode cX2_become 115 = .ok (.getfield 30, 3) := by decide +kernel
theorem dX2_become_118 : decode cX2_become 118 = .ok (.iload_n 2, 1) := by decide +kernel
theorem dX2_become_119 : decode cX2_become 119 = .ok (.aload_n 1, 1) := by decide +kernel
theorem dX2_become_120 : decode cX2_become 120 = .ok (.getfield 30, 3) := by decide +kernel
theorem dX2_become_123 : decode cX2_become 123 = .ok (.iload_n 2, 1) := by decide +kernel
theorem dX2_become_124 : decode cX2_become 124 = .ok (.iaload, 1) := by decide +kernel
theorem dX2_become_125 : decode cX2_become 125 = .ok (.iastore, 1) := by decide +kernel
theorem dX2_become_126 : decode cX2_become 126 = .ok (.aload_n 0, 1) := by decide +kernel
theorem dX2_become_127 : decode cX2_become 127 = .ok (.getfield 33, 3) := by decide +kernel
theorem dX2_become_130 : decode cX2_become 130 = .ok (.iload_n 2, 1) := by decide +kernel
theorem dX2_become_131 : decode cX2_become 131 = .ok (.aload_n 1, 1) := by decide +kernel
theorem dX2_become_132 : decode cX2_become 132 = .ok (.getfield 33, 3) := by decide +kernel
theorem dX2_become_135 : decode cX2_become 135 = .ok (.iload_n 2, 1) := by decide +kernel
theorem dX2_become_136 : decode cX2_become 136 = .ok (.iaload, 1) := by decide +kernel
theorem dX2_become_137 : decode cX2_become 137 = .ok (.iastore, 1) := by decide +kernel
theorem dX2_become_138 : decode cX2_become 138 = .ok (.iinc 2 1, 3) := by decide +kernel
theorem dX2_become_141 : decode cX2_become 141 = .ok (.goto (-47), 3) := by decide +kernel
theorem dX2_become_144 : decode cX2_become 144 = .ok (.return_, 1) := by decide +kernel
theorem dX2_uninviteAll_0 : decode cX2_uninviteAll 0 = .ok (.iconst 0, 1) := by decide +kernel
theorem dX2_uninviteAll_1 : decode cX2_uninviteAll 1 = .ok (.istore_n 1, 1) := by decide +kernel
theorem dX2_uninviteAll_2 : decode cX2_uninviteAll 2 = .ok (.iload_n 1, 1) := by decide +kernel
theorem dX2_uninviteAll_3 : decode cX2_uninviteAll 3 = .ok (.bipush 8, 2) := by decide +kernel
theorem dX2_uninviteAll_5 : decode cX2_uninviteAll 5 = .ok (.if_icmp .ge 17, 3) := by decide +kernel
theorem dX2_uninviteAll_8 : decode cX2_uninviteAll 8 = .ok (.aload_n 0, 1) := by decide +kernel
theorem dX2_uninviteAll_9 : decode cX2_uninviteAll 9 = .ok (.getfield 24, 3) := by decide +kernel
theorem dX2_uninviteAll_12 : decode cX2_uninviteAll 12 = .ok (.iload_n 1, 1) := by decide +kernel
theorem dX2_uninviteAll_13 : decode cX2_uninviteAll 13 = .ok (.bipush 24, 2) := by decide +kernel
theorem dX2_uninviteAll_15 : decode cX2_uninviteAll 15 = .ok (.iastore, 1) := by decide +kernel
theorem dX2_uninviteAll_16 : decode cX2_uninviteAll 16 = .ok (.iinc 1 1, 3) := by decide +kernel
theorem dX2_uninviteAll_19 : decode cX2_uninviteAll 19 = .ok (.goto (-17), 3) := by decide +kernel
theorem dX2_uninviteAll_22 : decode cX2_uninviteAll 22 = .ok (.return_, 1) := by decide +kernel
theorem dX2_invite_0 : decode cX2_invite 0 = .ok (.iload_n 2, 1) := by decide +kernel
theorem dX2_invite_1 : decode cX2_invite 1 = .ok (.iconst 0, 1) := by decide +kernel
theorem dX2_invite_2 : decode cX2_invite 2 = .ok (.bipush 7, 2) := by decide +kernel
theorem dX2_invite_4 : decode cX2_invite 4 = .ok (.invokestatic 52, 3) := by decide +kernel
theorem dX2_invite_7 : decode cX2_invite 7 = .ok (.ifCond .eq 19, 3) := by decide +kernel
theorem dX2_invite_10 : decode cX2_invite 10 = .ok (.aload_n 0, 1) := by decide +kernel
theorem dX2_invite_11 : decode cX2_invite 11 = .ok (.getfield 24, 3) := by decide +kernel
theorem dX2_invite_14 : decode cX2_invite 14 = .ok (.iload_n 2, 1) := by decide +kernel
theorem dX2_invite_15 : decode cX2_invite 15 = .ok (.aload_n 0, 1) := by decide +kernel
theorem dX2_invite_16 : decode cX2_invite 16 = .ok (.getfield 24, 3) := by decide +kernel
theorem dX2_invite_19 : decode cX2_invite 19 = .ok (.iload_n 2, 1) := by decide +kernel
theorem dX2_invite_20 : decode cX2_invite 20 = .ok (.iaload, 1) := by decide +kernel
theorem dX2_invite_21 : decode cX2_invite 21 = .ok (.iload_n 1, 1) := by decide +kernel
theorem dX2_invite_22 : decode cX2_invite 22 = .ok (.invokestatic 59, 3) := by decide +kernel
theorem dX2_invite_25 : decode cX2_invite 25 = .ok (.iastore, 1) := by decide +kernel
theorem dX2_invite_26 : decode cX2_invite 26 = .ok (.return_, 1) := by decide +kernel
theorem dX2_live_0 : decode cX2_live 0 = .ok (.aload_n 0, 1) := by decide +kernel
theorem dX2_live_1 : decode cX2_live 1 = .ok (.invokevirtual 70, 3) := by decide +kernel
theorem dX2_live_4 : decode cX2_live 4 = .ok (.iconst 0, 1) := by decide +kernel
theorem dX2_live_5 : decode cX2_live 5 = .ok (.istore_n 1, 1) := by decide +kernel
theorem dX2_live_6 : decode cX2_live 6 = .ok (.iconst 0, 1) := by decide +kernel
theorem dX2_live_7 : decode cX2_live 7 = .ok (.istore_n 2, 1) := by decide +kernel
theorem dX2_live_8 : decode cX2_live 8 = .ok (.iload_n 2, 1) := by decide +kernel
theorem dX2_live_9 : decode cX2_live 9 = .ok (.bipush 24, 2) := by decide +kernel
theorem dX2_live_11 : decode cX2_live 11 = .ok (.if_icmp .ge 41, 3) := by decide +kernel
theorem dX2_live_14 : decode cX2_live 14 = .ok (.iload_n 1, 1) := by decide +kernel
theorem dX2_live_15 : decode cX2_live 15 = .ok (.aload_n 0, 1) := by decide +kernel
theorem dX2_live_16 : decode cX2_live 16 = .ok (.aload_n 0, 1) := by decide +kernel
theorem dX2_live_17 : decode cX2_live 17 = .ok (.getfield 36, 3) := by decide +kernel
theorem dX2_live_20 : decode cX2_live 20 = .ok (.iload_n 2, 1) := by decide +kernel
theorem dX2_live_21 : decode cX2_live 21 = .ok (.iaload, 1) := by decide +kernel
theorem dX2_live_22 : decode cX2_live 22 = .ok (.iload_n 2, 1) := by decide +kernel
theorem dX2_live_23 : decode cX2_live 23 = .ok (.invokevirtual 73, 3) := by decide +kernel
theorem dX2_live_26 : decode cX2_live 26 = .ok (.ior, 1) := by decide +kernel
theorem dX2_live_27 : decode cX2_live 27 = .ok (.istore_n 1, 1) := by decide +kernel
theorem dX2_live_28 : decode cX2_live 28 = .ok (.iload_n 1, 1) := by decide +kernel
theorem dX2_live_29 : decode cX2_live 29 = .ok (.ifCond .eq 17, 3) := by decide +kernel
theorem dX2_live_32 : decode cX2_live 32 = .ok (.aload_n 0, 1) := by decide +kernel
theorem dX2_live_33 : decode cX2_live 33 = .ok (.iload_n 1, 1) := by decide +kernel
theorem dX2_live_34 : decode cX2_live 34 = .ok (.iload_n 2, 1) := by decide +kernel
theorem dX2_live_35 : decode cX2_live 35 = .ok (.invokevirtual 76, 3) := by decide +kernel
theorem dX2_live_38 : decode cX2_live 38 = .ok (.istore_n 1, 1) := by decide +kernel
theorem dX2_live_39 : decode cX2_live 39 = .ok (.aload_n 0, 1) := by decide +kernel
theorem dX2_live_40 : decode cX2_live 40 = .ok (.iload_n 1, 1) := by decide +kernel
theorem dX2_live_41 : decode cX2_live 41 = .ok (.iload_n 2, 1) := by decide +kernel
theorem dX2_live_42 : decode cX2_live 42 = .ok (.invokevirtual 79, 3) := by decide +kernel
theorem dX2_live_45 : decode cX2_live 45 = .ok (.istore_n 1, 1) := by decide +kernel
theorem dX2_live_46 : decode cX2_live 46 = .ok (.iinc 2 1, 3) := by decide +kernel
theorem dX2_live_49 : decode cX2_live 49 = .ok (.goto (-41), 3) := by decide +kernel
theorem dX2_live_52 : decode cX2_live 52 = .ok (.return_, 1) := by decide +kernel
theorem dX2_gather_0 : decode cX2_gather 0 = .ok (.iconst 0, 1) := by decide +kernel
theorem dX2_gather_1 : decode cX2_gather 1 = .ok (.istore_n 1, 1) := by decide +kernel
theorem dX2_gather_2 : decode cX2_gather 2 = .ok (.iload_n 1, 1) := by decide +kernel
theorem dX2_gather_3 : decode cX2_gather 3 = .ok (.bipush 24, 2) := by decide +kernel
theorem dX2_gather_5 : decode cX2_gather 5 = .ok (.if_icmp .ge 16, 3) := by decide +kernel
theorem dX2_gather_8 : decode cX2_gather 8 = .ok (.aload_n 0, 1) := by decide +kernel
theorem dX2_gather_9 : decode cX2_gather 9 = .ok (.getfield 36, 3) := by decide +kernel
theorem dX2_gather_12 : decode cX2_gather 12 = .ok (.iload_n 1, 1) := by decide +kernel
theorem dX2_gather_13 : decode cX2_gather 13 = .ok (.iconst 0, 1) := by decide +kernel
theorem dX2_gather_14 : decode cX2_gather 14 = .ok (.iastore, 1) := by decide +kernel
theorem dX2_gather_15 : decode cX2_gather 15 = .ok (.iinc 1 1, 3) := by decide +kernel
theorem dX2_gather_18 : decode cX2_gather 18 = .ok (.goto (-16), 3) := by decide +kernel
theorem dX2_gather_21 : decode cX2_gather 21 = .ok (.iconst 0, 1) := by decide +kernel
theorem dX2_gather_22 : decode cX2_gather 22 = .ok (.istore_n 1, 1) := by decide +kernel
theorem dX2_gather_23 : decode cX2_gather 23 = .ok (.iload_n 1, 1) := by decide +kernel
theorem dX2_gather_24 : decode cX2_gather 24 = .ok (.aload_n 0, 1) := by decide +kernel
theorem dX2_gather_25 : decode cX2_gather 25 = .ok (.getfield 48, 3) := by decide +kernel
theorem dX2_gather_28 : decode cX2_gather 28 = .ok (.if_icmp .ge 67, 3) := by decide +kernel
theorem dX2_gather_31 : decode cX2_gather 31 = .ok (.aload_n 0, 1) := by decide +kernel
theorem dX2_gather_32 : decode cX2_gather 32 = .ok (.getfield 39, 3) := by decide +kernel
theorem dX2_gather_35 : decode cX2_gather 35 = .ok (.iload_n 1, 1) := by decide +kernel
theorem dX2_gather_36 : decode cX2_gather 36 = .ok (.iconst (-1), 1) := by decide +kernel
theorem dX2_gather_37 : decode cX2_gather 37 = .ok (.iastore, 1) := by decide +kernel
theorem dX2_gather_38 : decode cX2_gather 38 = .ok (.aload_n 0, 1) := by decide +kernel
theorem dX2_gather_39 : decode cX2_gather 39 = .ok (.getfield 42, 3) := by decide +kernel
theorem dX2_gather_42 : decode cX2_gather 42 = .ok (.iload_n 1, 1) := by decide +kernel
theorem dX2_gather_43 : decode cX2_gather 43 = .ok (.iconst (-1), 1) := by decide +kernel
theorem dX2_gather_44 : decode cX2_gather 44 = .ok (.iastore, 1) := by decide +kernel
theorem dX2_gather_45 : decode cX2_gather 45 = .ok (.aload_n 0, 1) := by decide +kernel
theorem dX2_gather_46 : decode cX2_gather 46 = .ok (.getfield 45, 3) := by decide +kernel
theorem dX2_gather_49 : decode cX2_gather 49 = .ok (.iload_n 1, 1) := by decide +kernel
theorem dX2_gather_50 : decode cX2_gather 50 = .ok (.iconst (-1), 1) := by decide +kernel
theorem dX2_gather_51 : decode cX2_gather 51 = .ok (.iastore, 1) := by decide +kernel
theorem dX2_gather_52 : decode cX2_gather 52 = .ok (.aload_n 0, 1) := by decide +kernel
theorem dX2_gather_53 : decode cX2_gather 53 = .ok (.getfield 18, 3) := by decide +kernel
theorem dX2_gather_56 : decode cX2_gather 56 = .ok (.iload_n 1, 1) := by decide +kernel
theorem dX2_gather_57 : decode cX2_gather 57 = .ok (.iaload, 1) := by decide +kernel
theorem dX2_gather_58 : decode cX2_gather 58 = .ok (.ifCond .lt 31, 3) := by decide +kernel
theorem dX2_gather_61 : decode cX2_gather 61 = .ok (.aload_n 0, 1) := by decide +kernel
theorem dX2_gather_62 : decode cX2_gather 62 = .ok (.getfield 18, 3) := by decide +kernel
theorem dX2_gather_65 : decode cX2_gather 65 = .ok (.iload_n 1, 1) := by decide +kernel
theorem dX2_gather_66 : decode cX2_gather 66 = .ok (.iaload, 1) := by decide +kernel
theorem dX2_gather_67 : decode cX2_gather 67 = .ok (.bipush 24, 2) := by decide +kernel
theorem dX2_gather_69 : decode cX2_gather 69 = .ok (.if_icmp .ge 20, 3) := by decide +kernel
theorem dX2_gather_72 : decode cX2_gather 72 = .ok (.aload_n 0, 1) := by decide +kernel
theorem dX2_gather_73 : decode cX2_gather 73 = .ok (.getfield 36, 3) := by decide +kernel
theorem dX2_gather_76 : decode cX2_gather 76 = .ok (.aload_n 0, 1) := by decide +kernel
theorem dX2_gather_77 : decode cX2_gather 77 = .ok (.getfield 18, 3) := by decide +kernel
theorem dX2_gather_80 : decode cX2_gather 80 = .ok (.iload_n 1, 1) := by decide +kernel
theorem dX2_gather_81 : decode cX2_gather 81 = .ok (.iaload, 1) := by decide +kernel
theorem dX2_gather_82 : decode cX2_gather 82 = .ok (.dup2, 1) := by decide +kernel
theorem dX2_gather_83 : decode cX2_gather 83 = .ok (.iaload, 1) := by decide +kernel
theorem dX2_gather_84 : decode cX2_gather 84 = .ok (.iconst 1, 1) := by decide +kernel
theorem dX2_gather_85 : decode cX2_gather 85 = .ok (.iload_n 1, 1) := by decide +kernel
theorem dX2_gather_86 : decode cX2_gather 86 = .ok (.ishl, 1) := by decide +kernel
theorem dX2_gather_87 : decode cX2_gather 87 = .ok (.ior, 1) := by decide +kernel
theorem dX2_gather_88 : decode cX2_gather 88 = .ok (.iastore, 1) := by decide +kernel
theorem dX2_gather_89 : decode cX2_gather 89 = .ok (.iinc 1 1, 3) := by decide +kernel
theorem dX2_gather_92 : decode cX2_gather 92 = .ok (.goto (-69), 3) := by decide +kernel
theorem dX2_gather_95 : decode cX2_gather 95 = .ok (.return_, 1) := by decide +kernel
theorem dX2_receive_0 : decode cX2_receive 0 = .ok (.iload_n 1, 1) := by decide +kernel
theorem dX2_receive_1 : decode cX2_receive 1 = .ok (.istore_n 3, 1) := by decide +kernel
theorem dX2_receive_2 : decode cX2_receive 2 = .ok (.iconst 0, 1) := by decide +kernel
theorem dX2_receive_3 : decode cX2_receive 3 = .ok (.istore 4, 2) := by decide +kernel
theorem dX2_receive_5 : decode cX2_receive 5 = .ok (.iload 4, 2) := by decide +kernel
theorem dX2_receive_7 : decode cX2_receive 7 = .ok (.aload_n 0, 1) := by decide +kernel
theorem dX2_receive_8 : decode cX2_receive 8 = .ok (.getfield 48, 3) := by decide +kernel
theorem dX2_receive_11 : decode cX2_receive 11 = .ok (.if_icmp .ge 50, 3) := by decide +kernel
theorem dX2_receive_14 : decode cX2_receive 14 = .ok (.iload_n 1, 1) := by decide +kernel
theorem dX2_receive_15 : decode cX2_receive 15 = .ok (.ifCond .eq 46, 3) := by decide +kernel
theorem dX2_receive_18 : decode cX2_receive 18 = .ok (.iload_n 1, 1) := by decide +kernel
theorem dX2_receive_19 : decode cX2_receive 19 = .ok (.iload 4, 2) := by decide +kernel
theorem dX2_receive_21 : decode cX2_receive 21 = .ok (.ishr, 1) := by decide +kernel
theorem dX2_receive_22 : decode cX2_receive 22 = .ok (.iconst 1, 1) := by decide +kernel
theorem dX2_receive_23 : decode cX2_receive 23 = .ok (.iand, 1) := by decide +kernel
theorem dX2_receive_24 : decode cX2_receive 24 = .ok (.ifCond .eq 31, 3) := by decide +kernel
theorem dX2_receive_27 : decode cX2_receive 27 = .ok (.aload_n 0, 1) := by decide +kernel
theorem dX2_receive_28 : decode cX2_receive 28 = .ok (.getfield 9, 3) := by decide +kernel
theorem dX2_receive_31 : decode cX2_receive 31 = .ok (.iload 4, 2) := by decide +kernel
theorem dX2_receive_33 : decode cX2_receive 33 = .ok (.iaload, 1) := by decide +kernel
theorem dX2_receive_34 : decode cX2_receive 34 = .ok (.iconst 2, 1) := by decide +kernel
theorem dX2_receive_35 : decode cX2_receive 35 = .ok (.if_icmp .ne 20, 3) := by decide +kernel
theorem dX2_receive_38 : decode cX2_receive 38 = .ok (.aload_n 0, 1) := by decide +kernel
theorem dX2_receive_39 : decode cX2_receive 39 = .ok (.iload 4, 2) := by decide +kernel
theorem dX2_receive_41 : decode cX2_receive 41 = .ok (.iload_n 2, 1) := by decide +kernel
theorem dX2_receive_42 : decode cX2_receive 42 = .ok (.iconst 2, 1) := by decide +kernel
theorem dX2_receive_43 : decode cX2_receive 43 = .ok (.invokevirtual 82, 3) := by decide +kernel
theorem dX2_receive_46 : decode cX2_receive 46 = .ok (.iload_n 3, 1) := by decide +kernel
theorem dX2_receive_47 : decode cX2_receive 47 = .ok (.iconst 1, 1) := by decide +kernel
theorem dX2_receive_48 : decode cX2_receive 48 = .ok (.iload 4, 2) := by decide +kernel
theorem dX2_receive_50 : decode cX2_receive 50 = .ok (.ishl, 1) := by decide +kernel
theorem dX2_receive_51 : decode cX2_receive 51 = .ok (.iconst (-1), 1) := by decide +kernel
theorem dX2_receive_52 : decode cX2_receive 52 = .ok (.ixor, 1) := by decide +kernel
theorem dX2_receive_53 : decode cX2_receive 53 = .ok (.iand, 1) := by decide +kernel
theorem dX2_receive_54 : decode cX2_receive 54 = .ok (.istore_n 3, 1) := by decide +kernel
theorem dX2_receive_55 : decode cX2_receive 55 = .ok (.iinc 4 1, 3) := by decide +kernel
theorem dX2_receive_58 : decode cX2_receive 58 = .ok (.goto (-53), 3) := by decide +kernel
theorem dX2_receive_61 : decode cX2_receive 61 = .ok (.iload_n 3, 1) := by decide +kernel
theorem dX2_receive_62 : decode cX2_receive 62 = .ok (.ireturn, 1) := by decide +kernel
theorem dX2_openDoor_0 : decode cX2_openDoor 0 = .ok (.aload_n 0, 1) := by decide +kernel
theorem dX2_openDoor_1 : decode cX2_openDoor 1 = .ok (.iload_n 2, 1) := by decide +kernel
theorem dX2_openDoor_2 : decode cX2_openDoor 2 = .ok (.invokevirtual 86, 3) := by decide +kernel
theorem dX2_openDoor_5 : decode cX2_openDoor 5 = .ok (.istore_n 3, 1) := by decide +kernel
theorem dX2_openDoor_6 : decode cX2_openDoor 6 = .ok (.iload_n 3, 1) := by decide +kernel
theorem dX2_openDoor_7 : decode cX2_openDoor 7 = .ok (.iconst (-1), 1) := by decide +kernel
theorem dX2_openDoor_8 : decode cX2_openDoor 8 = .ok (.if_icmp .ne 5, 3) := by decide +kernel
theorem dX2_openDoor_11 : decode cX2_openDoor 11 = .ok (.iload_n 1, 1) := by decide +kernel
theorem dX2_openDoor_12 : decode cX2_openDoor 12 = .ok (.ireturn, 1) := by decide +kernel
theorem dX2_openDoor_13 : decode cX2_openDoor 13 = .ok (.aload_n 0, 1) := by decide +kernel
theorem dX2_openDoor_14 : decode cX2_openDoor 14 = .ok (.getfield 27, 3) := by decide +kernel
theorem dX2_openDoor_17 : decode cX2_openDoor 17 = .ok (.iload_n 3, 1) := by decide +kernel
theorem dX2_openDoor_18 : decode cX2_openDoor 18 = .ok (.iaload, 1) := by decide +kernel
theorem dX2_openDoor_19 : decode cX2_openDoor 19 = .ok (.ifCond .ne 7, 3) := by decide +kernel
theorem dX2_openDoor_22 : decode cX2_openDoor 22 = .ok (.iconst 1, 1) := by decide +kernel
theorem dX2_openDoor_23 : decode cX2_openDoor 23 = .ok (.goto 4, 3) := by decide +kernel
theorem dX2_openDoor_26 : decode cX2_openDoor 26 = .ok (.iconst 0, 1) := by decide +kernel
theorem dX2_openDoor_27 : decode cX2_openDoor 27 = .ok (.istore 4, 2) := by decide +kernel
theorem dX2_openDoor_29 : decode cX2_openDoor 29 = .ok (.iload 4, 2) := by decide +kernel
theorem dX2_openDoor_31 : decode cX2_openDoor 31 = .ok (.ifCond .eq 12, 3) := by decide +kernel
theorem dX2_openDoor_34 : decode cX2_openDoor 34 = .ok (.aload_n 0, 1) := by decide +kernel
theorem dX2_openDoor_35 : decode cX2_openDoor 35 = .ok (.iload_n 1, 1) := by decide +kernel
theorem dX2_openDoor_36 : decode cX2_openDoor 36 = .ok (.iload_n 2, 1) := by decide +kernel
theorem dX2_openDoor_37 : decode cX2_openDoor 37 = .ok (.invokevirtual 90, 3) := by decide +kernel
theorem dX2_openDoor_40 : decode cX2_openDoor 40 = .ok (.goto 4, 3) := by decide +kernel
theorem dX2_openDoor_43 : decode cX2_openDoor 43 = .ok (.iload_n 1, 1) := by decide +kernel
theorem dX2_openDoor_44 : decode cX2_openDoor 44 = .ok (.istore 5, 2) := by decide +kernel
theorem dX2_openDoor_46 : decode cX2_openDoor 46 = .ok (.aload_n 0, 1) := by decide +kernel
theorem dX2_openDoor_47 : decode cX2_openDoor 47 = .ok (.iload 5, 2) := by decide +kernel
theorem dX2_openDoor_49 : decode cX2_openDoor 49 = .ok (.iload_n 2, 1) := by decide +kernel
theorem dX2_openDoor_50 : decode cX2_openDoor 50 = .ok (.invokevirtual 93, 3) := by decide +kernel
theorem dX2_openDoor_53 : decode cX2_openDoor 53 = .ok (.istore 6, 2) := by decide +kernel
theorem dX2_openDoor_55 : decode cX2_openDoor 55 = .ok (.iload 6, 2) := by decide +kernel
theorem dX2_openDoor_57 : decode cX2_openDoor 57 = .ok (.iconst (-1), 1) := by decide +kernel
theorem dX2_openDoor_58 : decode cX2_openDoor 58 = .ok (.if_icmp .ne 6, 3) := by decide +kernel
theorem dX2_openDoor_61 : decode cX2_openDoor 61 = .ok (.iload 5, 2) := by decide +kernel
theorem dX2_openDoor_63 : decode cX2_openDoor 63 = .ok (.ireturn, 1) := by decide +kernel
theorem dX2_openDoor_64 : decode cX2_openDoor 64 = .ok (.aload_n 0, 1) := by decide +kernel
theorem dX2_openDoor_65 : decode cX2_openDoor 65 = .ok (.iload 6, 2) := by decide +kernel
theorem dX2_openDoor_67 : decode cX2_openDoor 67 = .ok (.iload_n 2, 1) := by decide +kernel
theorem dX2_openDoor_68 : decode cX2_openDoor 68 = .ok (.iload 4, 2) := by decide +kernel
theorem dX2_openDoor_70 : decode cX2_openDoor 70 = .ok (.ifCond .eq 13, 3) := by decide +kernel
theorem dX2_openDoor_73 : decode cX2_openDoor 73 = .ok (.aload_n 0, 1) := by decide +kernel
theorem dX2_openDoor_74 : decode cX2_openDoor 74 = .ok (.getfield 9, 3) := by decide +kernel
theorem dX2_openDoor_77 : decode cX2_openDoor 77 = .ok (.iload 6, 2) := by decide +kernel
theorem dX2_openDoor_79 : decode cX2_openDoor 79 = .ok (.iaload, 1) := by decide +kernel
theorem dX2_openDoor_80 : decode cX2_openDoor 80 = .ok (.goto 14, 3) := by decide +kernel
theorem dX2_openDoor_83 : decode cX2_openDoor 83 = .ok (.aload_n 0, 1) := by decide +kernel
theorem dX2_openDoor_84 : decode cX2_openDoor 84 = .ok (.getfield 9, 3) := by decide +kernel
theorem dX2_openDoor_87 : decode cX2_openDoor 87 = .ok (.iload 6, 2) := by decide +kernel
theorem dX2_openDoor_89 : decode cX2_openDoor 89 = .ok (.iaload, 1) := by decide +kernel
theorem dX2_openDoor_90 : decode cX2_openDoor 90 = .ok (.iconst 1, 1) := by decide +kernel
theorem dX2_openDoor_91 : decode cX2_openDoor 91 = .ok (.iadd, 1) := by decide +kernel
theorem dX2_openDoor_92 : decode cX2_openDoor 92 = .ok (.iconst 4, 1) := by decide +kernel
theorem dX2_openDoor_93 : decode cX2_openDoor 93 = .ok (.irem, 1) := by decide +kernel
theorem dX2_openDoor_94 : decode cX2_openDoor 94 = .ok (.invokevirtual 82, 3) := by decide +kernel
theorem dX2_openDoor_97 : decode cX2_openDoor 97 = .ok (.iload 5, 2) := by decide +kernel
theorem dX2_openDoor_99 : decode cX2_openDoor 99 = .ok (.iconst 1, 1) := by decide +kernel
theorem dX2_openDoor_100 : decode cX2_openDoor 100 = .ok (.iload 6, 2) := by decide +kernel
theorem dX2_openDoor_102 : decode cX2_openDoor 102 = .ok (.ishl, 1) := by decide +kernel
theorem dX2_openDoor_103 : decode cX2_openDoor 103 = .ok (.iconst (-1), 1) := by decide +kernel
theorem dX2_openDoor_104 : decode cX2_openDoor 104 = .ok (.ixor, 1) := by decide +kernel
theorem dX2_openDoor_105 : decode cX2_openDoor 105 = .ok (.iand, 1) := by decide +kernel
theorem dX2_openDoor_106 : decode cX2_openDoor 106 = .ok (.ireturn, 1) := by decide +kernel
theorem dX2_sendSunshines_0 : decode cX2_sendSunshines 0 = .ok (.iload_n 1, 1) := by decide +kernel
theorem dX2_sendSunshines_1 : decode cX2_sendSunshines 1 = .ok (.istore_n 3, 1) := by decide +kernel
theorem dX2_sendSunshines_2 : decode cX2_sendSunshines 2 = .ok (.iconst 0, 1) := by decide +kernel
theorem dX2_sendSunshines_3 : decode cX2_sendSunshines 3 = .ok (.istore 4, 2) := by decide +kernel
theorem dX2_sendSunshines_5 : decode cX2_sendSunshines 5 = .ok (.iload 4, 2) := by decide +kernel
theorem dX2_sendSunshines_7 : decode cX2_sendSunshines 7 = .ok (.aload_n 0, 1) := by decide +kernel
theorem dX2_sendSunshines_8 : decode cX2_sendSunshines 8 = .ok (.getfield 48, 3) := by decide +kernel
theorem dX2_sendSunshines_11 : decode cX2_sendSunshines 11 = .ok (.if_icmp .ge 46, 3) := by decide +kernel
theorem dX2_sendSunshines_14 : decode cX2_sendSunshines 14 = .ok (.iload_n 1, 1) := by decide +kernel
theorem dX2_sendSunshines_15 : decode cX2_sendSunshines 15 = .ok (.iload 4, 2) := by decide +kernel
theorem dX2_sendSunshines_17 : decode cX2_sendSunshines 17 = .ok (.ishr, 1) := by decide +kernel
theorem dX2_sendSunshines_18 : decode cX2_sendSunshines 18 = .ok (.iconst 1, 1) := by decide +kernel
theorem dX2_sendSunshines_19 : decode cX2_sendSunshines 19 = .ok (.iand, 1) := by decide +kernel
theorem dX2_sendSunshines_20 : decode cX2_sendSunshines 20 = .ok (.ifCond .eq 31, 3) := by decide +kernel
theorem dX2_sendSunshines_23 : decode cX2_sendSunshines 23 = .ok (.aload_n 0, 1) := by decide +kernel
theorem dX2_sendSunshines_24 : decode cX2_sendSunshines 24 = .ok (.getfield 9, 3) := by decide +kernel
theorem dX2_sendSunshines_27 : decode cX2_sendSunshines 27 = .ok (.iload 4, 2) := by decide +kernel
theorem dX2_sendSunshines_29 : decode cX2_sendSunshines 29 = .ok (.iaload, 1) := by decide +kernel
theorem dX2_sendSunshines_30 : decode cX2_sendSunshines 30 = .ok (.iconst 3, 1) := by decide +kernel
theorem dX2_sendSunshines_31 : decode cX2_sendSunshines 31 = .ok (.if_icmp .ne 20, 3) := by decide +kernel
theorem dX2_sendSunshines_34 : decode cX2_sendSunshines 34 = .ok (.aload_n 0, 1) := by decide +kernel
theorem dX2_sendSunshines_35 : decode cX2_sendSunshines 35 = .ok (.getfield 42, 3) := by decide +kernel
theorem dX2_sendSunshines_38 : decode cX2_sendSunshines 38 = .ok (.iload 4, 2) := by decide +kernel
theorem dX2_sendSunshines_40 : decode cX2_sendSunshines 40 = .ok (.iload_n 2, 1) := by decide +kernel
theorem dX2_sendSunshines_41 : decode cX2_sendSunshines 41 = .ok (.iastore, 1) := by decide +kernel
theorem dX2_sendSunshines_42 : decode cX2_sendSunshines 42 = .ok (.iload_n 3, 1) := by decide +kernel
theorem dX2_sendSunshines_43 : decode cX2_sendSunshines 43 = .ok (.iconst 1, 1) := by decide +kernel
theorem dX2_sendSunshines_44 : decode cX2_sendSunshines 44 = .ok (.iload 4, 2) := by decide +kernel
theorem dX2_sendSunshines_46 : decode cX2_sendSunshines 46 = .ok (.ishl, 1) := by decide +kernel
theorem dX2_sendSunshines_47 : decode cX2_sendSunshines 47 = .ok (.iconst (-1), 1) := by decide +kernel
theorem dX2_sendSunshines_48 : decode cX2_sendSunshines 48 = .ok (.ixor, 1) := by decide +kernel
theorem dX2_sendSunshines_49 : decode cX2_sendSunshines 49 = .ok (.iand, 1) := by decide +kernel
theorem dX2_sendSunshines_50 : decode cX2_sendSunshines 50 = .ok (.istore_n 3, 1) := by decide +kernel
theorem dX2_sendSunshines_51 : decode cX2_sendSunshines 51 = .ok (.iinc 4 1, 3) := by decide +kernel
theorem dX2_sendSunshines_54 : decode cX2_sendSunshines 54 = .ok (.goto (-49), 3) := by decide +kernel
theorem dX2_sendSunshines_57 : decode cX2_sendSunshines 57 = .ok (.iload_n 3, 1) := by decide +kernel
theorem dX2_sendSunshines_58 : decode cX2_sendSunshines 58 = .ok (.ireturn, 1) := by decide +kernel
theorem dX2_longestInvited_0 : decode cX2_longestInvited 0 = .ok (.iconst (-1), 1) := by decide +kernel
theorem dX2_longestInvited_1 : decode cX2_longestInvited 1 = .ok (.istore_n 3, 1) := by decide +kernel
theorem dX2_longestInvited_2 : decode cX2_longestInvited 2 = .ok (.iconst 0, 1) := by decide +kernel
theorem dX2_longestInvited_3 : decode cX2_longestInvited 3 = .ok (.istore 4, 2) := by decide +kernel
theorem dX2_longestInvited_5 : decode cX2_longestInvited 5 = .ok (.iload 4, 2) := by decide +kernel
theorem dX2_longestInvited_7 : decode cX2_longestInvited 7 = .ok (.aload_n 0, 1) := by decide +kernel
theorem dX2_longestInvited_8 : decode cX2_longestInvited 8 = .ok (.getfield 48, 3) := by decide +kernel
theorem dX2_longestInvited_11 : decode cX2_longestInvited 11 = .ok (.if_icmp .ge 53, 3) := by decide +kernel
theorem dX2_longestInvited_14 : decode cX2_longestInvited 14 = .ok (.iload_n 1, 1) := by decide +kernel
theorem dX2_longestInvited_15 : decode cX2_longestInvited 15 = .ok (.iload 4, 2) := by decide +kernel
theorem dX2_longestInvited_17 : decode cX2_longestInvited 17 = .ok (.ishr, 1) := by decide +kernel
theorem dX2_longestInvited_18 : decode cX2_longestInvited 18 = .ok (.iconst 1, 1) := by decide +kernel
theorem dX2_longestInvited_19 : decode cX2_longestInvited 19 = .ok (.iand, 1) := by decide +kernel
theorem dX2_longestInvited_20 : decode cX2_longestInvited 20 = .ok (.ifCond .eq 38, 3) := by decide +kernel
theorem dX2_longestInvited_23 : decode cX2_longestInvited 23 = .ok (.aload_n 0, 1) := by decide +kernel
theorem dX2_longestInvited_24 : decode cX2_longestInvited 24 = .ok (.getfield 24, 3) := by decide +kernel
theorem dX2_longestInvited_27 : decode cX2_longestInvited 27 = .ok (.iload 4, 2) := by decide +kernel
theorem dX2_longestInvited_29 : decode cX2_longestInvited 29 = .ok (.iaload, 1) := by decide +kernel
theorem dX2_longestInvited_30 : decode cX2_longestInvited 30 = .ok (.iload_n 2, 1) := by decide +kernel
theorem dX2_longestInvited_31 : decode cX2_longestInvited 31 = .ok (.if_icmp .gt 27, 3) := by decide +kernel
theorem dX2_longestInvited_34 : decode cX2_longestInvited 34 = .ok (.iload_n 3, 1) := by decide +kernel
theorem dX2_longestInvited_35 : decode cX2_longestInvited 35 = .ok (.iconst (-1), 1) := by decide +kernel
theorem dX2_longestInvited_36 : decode cX2_longestInvited 36 = .ok (.if_icmp .eq 19, 3) := by decide +kernel
theorem dX2_longestInvited_39 : decode cX2_longestInvited 39 = .ok (.aload_n 0, 1) := by decide +kernel
theorem dX2_longestInvited_40 : decode cX2_longestInvited 40 = .ok (.getfield 18, 3) := by decide +kernel
theorem dX2_longestInvited_43 : decode cX2_longestInvited 43 = .ok (.iload 4, 2) := by decide +kernel
theorem dX2_longestInvited_45 : decode cX2_longestInvited 45 = .ok (.iaload, 1) := by decide +kernel
theorem dX2_longestInvited_46 : decode cX2_longestInvited 46 = .ok (.aload_n 0, 1) := by decide +kernel
theorem dX2_longestInvited_47 : decode cX2_longestInvited 47 = .ok (.getfield 18, 3) := by decide +kernel
theorem dX2_longestInvited_50 : decode cX2_longestInvited 50 = .ok (.iload_n 3, 1) := by decide +kernel
theorem dX2_longestInvited_51 : decode cX2_longestInvited 51 = .ok (.iaload, 1) := by decide +kernel
theorem dX2_longestInvited_52 : decode cX2_longestInvited 52 = .ok (.if_icmp .ge 6, 3) := by decide +kernel
theorem dX2_longestInvited_55 : decode cX2_longestInvited 55 = .ok (.iload 4, 2) := by decide +kernel
theorem dX2_longestInvited_57 : decode cX2_longestInvited 57 = .ok (.istore_n 3, 1) := by decide +kernel
theorem dX2_longestInvited_58 : decode cX2_longestInvited 58 = .ok (.iinc 4 1, 3) := by decide +kernel
theorem dX2_longestInvited_61 : decode cX2_longestInvited 61 = .ok (.goto (-56), 3) := by decide +kernel
theorem dX2_longestInvited_64 : decode cX2_longestInvited 64 = .ok (.iload_n 3, 1) := by decide +kernel
theorem dX2_longestInvited_65 : decode cX2_longestInvited 65 = .ok (.ireturn, 1) := by decide +kernel
theorem dX2_letIn_0 : decode cX2_letIn 0 = .ok (.aload_n 0, 1) := by decide +kernel
theorem dX2_letIn_1 : decode cX2_letIn 1 = .ok (.getfield 39, 3) := by decide +kernel
theorem dX2_letIn_4 : decode cX2_letIn 4 = .ok (.iload_n 1, 1) := by decide +kernel
theorem dX2_letIn_5 : decode cX2_letIn 5 = .ok (.iload_n 2, 1) := by decide +kernel
theorem dX2_letIn_6 : decode cX2_letIn 6 = .ok (.iastore, 1) := by decide +kernel
theorem dX2_letIn_7 : decode cX2_letIn 7 = .ok (.aload_n 0, 1) := by decide +kernel
theorem dX2_letIn_8 : decode cX2_letIn 8 = .ok (.getfield 45, 3) := by decide +kernel
theorem dX2_letIn_11 : decode cX2_letIn 11 = .ok (.iload_n 1, 1) := by decide +kernel
theorem dX2_letIn_12 : decode cX2_letIn 12 = .ok (.iload_n 3, 1) := by decide +kernel
theorem dX2_letIn_13 : decode cX2_letIn 13 = .ok (.iastore, 1) := by decide +kernel
theorem dX2_letIn_14 : decode cX2_letIn 14 = .ok (.return_, 1) := by decide +kernel
theorem dX2_sendWeary_0 : decode cX2_sendWeary 0 = .ok (.iload_n 1, 1) := by decide +kernel
theorem dX2_sendWeary_1 : decode cX2_sendWeary 1 = .ok (.istore_n 3, 1) := by decide +kernel
theorem dX2_sendWeary_2 : decode cX2_sendWeary 2 = .ok (.iconst 0, 1) := by decide +kernel
theorem dX2_sendWeary_3 : decode cX2_sendWeary 3 = .ok (.istore 4, 2) := by decide +kernel
theorem dX2_sendWeary_5 : decode cX2_sendWeary 5 = .ok (.iload 4, 2) := by decide +kernel
theorem dX2_sendWeary_7 : decode cX2_sendWeary 7 = .ok (.aload_n 0, 1) := by decide +kernel
theorem dX2_sendWeary_8 : decode cX2_sendWeary 8 = .ok (.getfield 48, 3) := by decide +kernel
theorem dX2_sendWeary_11 : decode cX2_sendWeary 11 = .ok (.if_icmp .ge 56, 3) := by decide +kernel
theorem dX2_sendWeary_14 : decode cX2_sendWeary 14 = .ok (.iload_n 1, 1) := by decide +kernel
theorem dX2_sendWeary_15 : decode cX2_sendWeary 15 = .ok (.iload 4, 2) := by decide +kernel
theorem dX2_sendWeary_17 : decode cX2_sendWeary 17 = .ok (.ishr, 1) := by decide +kernel
theorem dX2_sendWeary_18 : decode cX2_sendWeary 18 = .ok (.iconst 1, 1) := by decide +kernel
theorem dX2_sendWeary_19 : decode cX2_sendWeary 19 = .ok (.iand, 1) := by decide +kernel
theorem dX2_sendWeary_20 : decode cX2_sendWeary 20 = .ok (.ifCond .eq 41, 3) := by decide +kernel
theorem dX2_sendWeary_23 : decode cX2_sendWeary 23 = .ok (.iload_n 2, 1) := by decide +kernel
theorem dX2_sendWeary_24 : decode cX2_sendWeary 24 = .ok (.aload_n 0, 1) := by decide +kernel
theorem dX2_sendWeary_25 : decode cX2_sendWeary 25 = .ok (.getfield 18, 3) := by decide +kernel
theorem dX2_sendWeary_28 : decode cX2_sendWeary 28 = .ok (.iload 4, 2) := by decide +kernel
theorem dX2_sendWeary_30 : decode cX2_sendWeary 30 = .ok (.iaload, 1) := by decide +kernel
theorem dX2_sendWeary_31 : decode cX2_sendWeary 31 = .ok (.isub, 1) := by decide +kernel
theorem dX2_sendWeary_32 : decode cX2_sendWeary 32 = .ok (.iconst 1, 1) := by decide +kernel
theorem dX2_sendWeary_33 : decode cX2_sendWeary 33 = .ok (.iadd, 1) := by decide +kernel
theorem dX2_sendWeary_34 : decode cX2_sendWeary 34 = .ok (.aload_n 0, 1) := by decide +kernel
theorem dX2_sendWeary_35 : decode cX2_sendWeary 35 = .ok (.getfield 15, 3) := by decide +kernel
theorem dX2_sendWeary_38 : decode cX2_sendWeary 38 = .ok (.iload 4, 2) := by decide +kernel
theorem dX2_sendWeary_40 : decode cX2_sendWeary 40 = .ok (.iaload, 1) := by decide +kernel
theorem dX2_sendWeary_41 : decode cX2_sendWeary 41 = .ok (.if_icmp .lt 20, 3) := by decide +kernel
theorem dX2_sendWeary_44 : decode cX2_sendWeary 44 = .ok (.aload_n 0, 1) := by decide +kernel
theorem dX2_sendWeary_45 : decode cX2_sendWeary 45 = .ok (.getfield 42, 3) := by decide +kernel
theorem dX2_sendWeary_48 : decode cX2_sendWeary 48 = .ok (.iload 4, 2) := by decide +kernel
theorem dX2_sendWeary_50 : decode cX2_sendWeary 50 = .ok (.iload_n 2, 1) := by decide +kernel
theorem dX2_sendWeary_51 : decode cX2_sendWeary 51 = .ok (.iastore, 1) := by decide +kernel
theorem dX2_sendWeary_52 : decode cX2_sendWeary 52 = .ok (.iload_n 3, 1) := by decide +kernel
theorem dX2_sendWeary_53 : decode cX2_sendWeary 53 = .ok (.iconst 1, 1) := by decide +kernel
theorem dX2_sendWeary_54 : decode cX2_sendWeary 54 = .ok (.iload 4, 2) := by decide +kernel
theorem dX2_sendWeary_56 : decode cX2_sendWeary 56 = .ok (.ishl, 1) := by decide +kernel
theorem dX2_sendWeary_57 : decode cX2_sendWeary 57 = .ok (.iconst (-1), 1) := by decide +kernel
theorem dX2_sendWeary_58 : decode cX2_sendWeary 58 = .ok (.ixor, 1) := by decide +kernel
theorem dX2_sendWeary_59 : decode cX2_sendWeary 59 = .ok (.iand, 1) := by decide +kernel
theorem dX2_sendWeary_60 : decode cX2_sendWeary 60 = .ok (.istore_n 3, 1) := by decide +kernel
theorem dX2_sendWeary_61 : decode cX2_sendWeary 61 = .ok (.iinc 4 1, 3) := by decide +kernel
theorem dX2_sendWeary_64 : decode cX2_sendWeary 64 = .ok (.goto (-59), 3) := by decide +kernel
theorem dX2_sendWeary_67 : decode cX2_sendWeary 67 = .ok (.iload_n 3, 1) := by decide +kernel
theorem dX2_sendWeary_68 : decode cX2_sendWeary 68 = .ok (.ireturn, 1) := by decide +kernel
theorem dX2_manAt_0 : decode cX2_manAt 0 = .ok (.iconst 0, 1) := by decide +kernel
theorem dX2_manAt_1 : decode cX2_manAt 1 = .ok (.istore_n 2, 1) := by decide +kernel
theorem dX2_manAt_2 : decode cX2_manAt 2 = .ok (.iload_n 2, 1) := by decide +kernel
theorem dX2_manAt_3 : decode cX2_manAt 3 = .ok (.aload_n 0, 1) := by decide +kernel
theorem dX2_manAt_4 : decode cX2_manAt 4 = .ok (.getfield 56, 3) := by decide +kernel
theorem dX2_manAt_7 : decode cX2_manAt 7 = .ok (.if_icmp .ge 31, 3) := by decide +kernel
theorem dX2_manAt_10 : decode cX2_manAt 10 = .ok (.aload_n 0, 1) := by decide +kernel
theorem dX2_manAt_11 : decode cX2_manAt 11 = .ok (.getfield 30, 3) := by decide +kernel
theorem dX2_manAt_14 : decode cX2_manAt 14 = .ok (.iload_n 2, 1) := by decide +kernel
theorem dX2_manAt_15 : decode cX2_manAt 15 = .ok (.iaload, 1) := by decide +kernel
theorem dX2_manAt_16 : decode cX2_manAt 16 = .ok (.iload_n 1, 1) := by decide +kernel
theorem dX2_manAt_17 : decode cX2_manAt 17 = .ok (.if_icmp .gt 15, 3) := by decide +kernel
theorem dX2_manAt_20 : decode cX2_manAt 20 = .ok (.iload_n 1, 1) := by decide +kernel
theorem dX2_manAt_21 : decode cX2_manAt 21 = .ok (.aload_n 0, 1) := by decide +kernel
theorem dX2_manAt_22 : decode cX2_manAt 22 = .ok (.getfield 33, 3) := by decide +kernel
theorem dX2_manAt_25 : decode cX2_manAt 25 = .ok (.iload_n 2, 1) := by decide +kernel
theorem dX2_manAt_26 : decode cX2_manAt 26 = .ok (.iaload, 1) := by decide +kernel
theorem dX2_manAt_27 : decode cX2_manAt 27 = .ok (.if_icmp .gt 5, 3) := by decide +kernel
theorem dX2_manAt_30 : decode cX2_manAt 30 = .ok (.iload_n 2, 1) := by decide +kernel
theorem dX2_manAt_31 : decode cX2_manAt 31 = .ok (.ireturn, 1) := by decide +kernel
theorem dX2_manAt_32 : decode cX2_manAt 32 = .ok (.iinc 2 1, 3) := by decide +kernel
theorem dX2_manAt_35 : decode cX2_manAt 35 = .ok (.goto (-33), 3) := by decide +kernel
theorem dX2_manAt_38 : decode cX2_manAt 38 = .ok (.iconst (-1), 1) := by decide +kernel
theorem dX2_manAt_39 : decode cX2_manAt 39 = .ok (.ireturn, 1) := by decide +kernel
theorem dX2_isIn_0 : decode cX2_isIn 0 = .ok (.aload_n 0, 1) := by decide +kernel
theorem dX2_isIn_1 : decode cX2_isIn 1 = .ok (.getfield 39, 3) := by decide +kernel
theorem dX2_isIn_4 : decode cX2_isIn 4 = .ok (.iload_n 1, 1) := by decide +kernel
theorem dX2_isIn_5 : decode cX2_isIn 5 = .ok (.iaload, 1) := by decide +kernel
theorem dX2_isIn_6 : decode cX2_isIn 6 = .ok (.iconst (-1), 1) := by decide +kernel
theorem dX2_isIn_7 : decode cX2_isIn 7 = .ok (.if_icmp .eq 34, 3) := by decide +kernel
theorem dX2_isIn_10 : decode cX2_isIn 10 = .ok (.aload_n 0, 1) := by decide +kernel
theorem dX2_isIn_11 : decode cX2_isIn 11 = .ok (.getfield 39, 3) := by decide +kernel
theorem dX2_isIn_14 : decode cX2_isIn 14 = .ok (.iload_n 1, 1) := by decide +kernel
theorem dX2_isIn_15 : decode cX2_isIn 15 = .ok (.iaload, 1) := by decide +kernel
theorem dX2_isIn_16 : decode cX2_isIn 16 = .ok (.iload_n 2, 1) := by decide +kernel
theorem dX2_isIn_17 : decode cX2_isIn 17 = .ok (.if_icmp .gt 24, 3) := by decide +kernel
theorem dX2_isIn_20 : decode cX2_isIn 20 = .ok (.iload_n 2, 1) := by decide +kernel
theorem dX2_isIn_21 : decode cX2_isIn 21 = .ok (.aload_n 0, 1) := by decide +kernel
theorem dX2_isIn_22 : decode cX2_isIn 22 = .ok (.getfield 39, 3) := by decide +kernel
theorem dX2_isIn_25 : decode cX2_isIn 25 = .ok (.iload_n 1, 1) := by decide +kernel
theorem dX2_isIn_26 : decode cX2_isIn 26 = .ok (.iaload, 1) := by decide +kernel
theorem dX2_isIn_27 : decode cX2_isIn 27 = .ok (.aload_n 0, 1) := by decide +kernel
theorem dX2_isIn_28 : decode cX2_isIn 28 = .ok (.getfield 21, 3) := by decide +kernel
theorem dX2_isIn_31 : decode cX2_isIn 31 = .ok (.iload_n 1, 1) := by decide +kernel
theorem dX2_isIn_32 : decode cX2_isIn 32 = .ok (.iaload, 1) := by decide +kernel
theorem dX2_isIn_33 : decode cX2_isIn 33 = .ok (.iadd, 1) := by decide +kernel
theorem dX2_isIn_34 : decode cX2_isIn 34 = .ok (.if_icmp .ge 7, 3) := by decide +kernel
theorem dX2_isIn_37 : decode cX2_isIn 37 = .ok (.iconst 1, 1) := by decide +kernel
theorem dX2_isIn_38 : decode cX2_isIn 38 = .ok (.goto 4, 3) := by decide +kernel
theorem dX2_isIn_41 : decode cX2_isIn 41 = .ok (.iconst 0, 1) := by decide +kernel
theorem dX2_isIn_42 : decode cX2_isIn 42 = .ok (.ireturn, 1) := by decide +kernel
theorem dX2_standing_0 : decode cX2_standing 0 = .ok (.iload_n 2, 1) := by decide +kernel
theorem dX2_standing_1 : decode cX2_standing 1 = .ok (.aload_n 0, 1) := by decide +kernel
theorem dX2_standing_2 : decode cX2_standing 2 = .ok (.getfield 18, 3) := by decide +kernel
theorem dX2_standing_5 : decode cX2_standing 5 = .ok (.iload_n 1, 1) := by decide +kernel
theorem dX2_standing_6 : decode cX2_standing 6 = .ok (.iaload, 1) := by decide +kernel
theorem dX2_standing_7 : decode cX2_standing 7 = .ok (.if_icmp .ge 5, 3) := by decide +kernel
theorem dX2_standing_10 : decode cX2_standing 10 = .ok (.iconst 0, 1) := by decide +kernel
theorem dX2_standing_11 : decode cX2_standing 11 = .ok (.ireturn, 1) := by decide +kernel
theorem dX2_standing_12 : decode cX2_standing 12 = .ok (.aload_n 0, 1) := by decide +kernel
theorem dX2_standing_13 : decode cX2_standing 13 = .ok (.getfield 39, 3) := by decide +kernel
theorem dX2_standing_16 : decode cX2_standing 16 = .ok (.iload_n 1, 1) := by decide +kernel
theorem dX2_standing_17 : decode cX2_standing 17 = .ok (.iaload, 1) := by decide +kernel
theorem dX2_standing_18 : decode cX2_standing 18 = .ok (.iconst (-1), 1) := by decide +kernel
theorem dX2_standing_19 : decode cX2_standing 19 = .ok (.if_icmp .eq 28, 3) := by decide +kernel
theorem dX2_standing_22 : decode cX2_standing 22 = .ok (.iload_n 2, 1) := by decide +kernel
theorem dX2_standing_23 : decode cX2_standing 23 = .ok (.aload_n 0, 1) := by decide +kernel
theorem dX2_standing_24 : decode cX2_standing 24 = .ok (.getfield 39, 3) := by decide +kernel
theorem dX2_standing_27 : decode cX2_standing 27 = .ok (.iload_n 1, 1) := by decide +kernel
theorem dX2_standing_28 : decode cX2_standing 28 = .ok (.iaload, 1) := by decide +kernel
theorem dX2_standing_29 : decode cX2_standing 29 = .ok (.if_icmp .lt 18, 3) := by decide +kernel
theorem dX2_standing_32 : decode cX2_standing 32 = .ok (.aload_n 0, 1) := by decide +kernel
theorem dX2_standing_33 : decode cX2_standing 33 = .ok (.iload_n 1, 1) := by decide +kernel
theorem dX2_standing_34 : decode cX2_standing 34 = .ok (.iload_n 2, 1) := by decide +kernel
theorem dX2_standing_35 : decode cX2_standing 35 = .ok (.invokevirtual 96, 3) := by decide +kernel
theorem dX2_standing_38 : decode cX2_standing 38 = .ok (.ifCond .eq 7, 3) := by decide +kernel
theorem dX2_standing_41 : decode cX2_standing 41 = .ok (.iconst 2, 1) := by decide +kernel
theorem dX2_standing_42 : decode cX2_standing 42 = .ok (.goto 4, 3) := by decide +kernel
theorem dX2_standing_45 : decode cX2_standing 45 = .ok (.iconst 3, 1) := by decide +kernel
theorem dX2_standing_46 : decode cX2_standing 46 = .ok (.ireturn, 1) := by decide +kernel
theorem dX2_standing_47 : decode cX2_standing 47 = .ok (.aload_n 0, 1) := by decide +kernel
theorem dX2_standing_48 : decode cX2_standing 48 = .ok (.getfield 42, 3) := by decide +kernel
theorem dX2_standing_51 : decode cX2_standing 51 = .ok (.iload_n 1, 1) := by decide +kernel
theorem dX2_standing_52 : decode cX2_standing 52 = .ok (.iaload, 1) := by decide +kernel
theorem dX2_standing_53 : decode cX2_standing 53 = .ok (.iconst (-1), 1) := by decide +kernel
theorem dX2_standing_54 : decode cX2_standing 54 = .ok (.if_icmp .eq 17, 3) := by decide +kernel
theorem dX2_standing_57 : decode cX2_standing 57 = .ok (.iload_n 2, 1) := by decide +kernel
theorem dX2_standing_58 : decode cX2_standing 58 = .ok (.aload_n 0, 1) := by decide +kernel
theorem dX2_standing_59 : decode cX2_standing 59 = .ok (.getfield 42, 3) := by decide +kernel
theorem dX2_standing_62 : decode cX2_standing 62 = .ok (.iload_n 1, 1) := by decide +kernel
theorem dX2_standing_63 : decode cX2_standing 63 = .ok (.iaload, 1) := by decide +kernel
theorem dX2_standing_64 : decode cX2_standing 64 = .ok (.if_icmp .lt 7, 3) := by decide +kernel
theorem dX2_standing_67 : decode cX2_standing 67 = .ok (.iconst 4, 1) := by decide +kernel
theorem dX2_standing_68 : decode cX2_standing 68 = .ok (.goto 4, 3) := by decide +kernel
theorem dX2_standing_71 : decode cX2_standing 71 = .ok (.iconst 1, 1) := by decide +kernel
theorem dX2_standing_72 : decode cX2_standing 72 = .ok (.ireturn, 1) := by decide +kernel
theorem dX2_warmthOn_0 : decode cX2_warmthOn 0 = .ok (.iconst 0, 1) := by decide +kernel
theorem dX2_warmthOn_1 : decode cX2_warmthOn 1 = .ok (.istore_n 2, 1) := by decide +kernel
theorem dX2_warmthOn_2 : decode cX2_warmthOn 2 = .ok (.iconst 0, 1) := by decide +kernel
theorem dX2_warmthOn_3 : decode cX2_warmthOn 3 = .ok (.istore_n 3, 1) := by decide +kernel
theorem dX2_warmthOn_4 : decode cX2_warmthOn 4 = .ok (.iload_n 3, 1) := by decide +kernel
theorem dX2_warmthOn_5 : decode cX2_warmthOn 5 = .ok (.aload_n 0, 1) := by decide +kernel
theorem dX2_warmthOn_6 : decode cX2_warmthOn 6 = .ok (.getfield 48, 3) := by decide +kernel
theorem dX2_warmthOn_9 : decode cX2_warmthOn 9 = .ok (.if_icmp .ge 26, 3) := by decide +kernel
theorem dX2_warmthOn_12 : decode cX2_warmthOn 12 = .ok (.aload_n 0, 1) := by decide +kernel
theorem dX2_warmthOn_13 : decode cX2_warmthOn 13 = .ok (.iload_n 3, 1) := by decide +kernel
theorem dX2_warmthOn_14 : decode cX2_warmthOn 14 = .ok (.iload_n 1, 1) := by decide +kernel
theorem dX2_warmthOn_15 : decode cX2_warmthOn 15 = .ok (.invokevirtual 96, 3) := by decide +kernel
theorem dX2_warmthOn_18 : decode cX2_warmthOn 18 = .ok (.ifCond .eq 11, 3) := by decide +kernel
theorem dX2_warmthOn_21 : decode cX2_warmthOn 21 = .ok (.iload_n 2, 1) := by decide +kernel
theorem dX2_warmthOn_22 : decode cX2_warmthOn 22 = .ok (.aload_n 0, 1) := by decide +kernel
theorem dX2_warmthOn_23 : decode cX2_warmthOn 23 = .ok (.iload_n 3, 1) := by decide +kernel
theorem dX2_warmthOn_24 : decode cX2_warmthOn 24 = .ok (.invokevirtual 100, 3) := by decide +kernel
theorem dX2_warmthOn_27 : decode cX2_warmthOn 27 = .ok (.iadd, 1) := by decide +kernel
theorem dX2_warmthOn_28 : decode cX2_warmthOn 28 = .ok (.istore_n 2, 1) := by decide +kernel
theorem dX2_warmthOn_29 : decode cX2_warmthOn 29 = .ok (.iinc 3 1, 3) := by decide +kernel
theorem dX2_warmthOn_32 : decode cX2_warmthOn 32 = .ok (.goto (-28), 3) := by decide +kernel
theorem dX2_warmthOn_35 : decode cX2_warmthOn 35 = .ok (.iload_n 2, 1) := by decide +kernel
theorem dX2_warmthOn_36 : decode cX2_warmthOn 36 = .ok (.ireturn, 1) := by decide +kernel
theorem dX2_warmer_0 : decode cX2_warmer 0 = .ok (.aload_n 0, 1) := by decide +kernel
theorem dX2_warmer_1 : decode cX2_warmer 1 = .ok (.getfield 45, 3) := by decide +kernel
theorem dX2_warmer_4 : decode cX2_warmer 4 = .ok (.iload_n 1, 1) := by decide +kernel
theorem dX2_warmer_5 : decode cX2_warmer 5 = .ok (.iaload, 1) := by decide +kernel
theorem dX2_warmer_6 : decode cX2_warmer 6 = .ok (.ifCond .lt 29, 3) := by decide +kernel
theorem dX2_warmer_9 : decode cX2_warmer 9 = .ok (.aload_n 0, 1) := by decide +kernel
theorem dX2_warmer_10 : decode cX2_warmer 10 = .ok (.getfield 45, 3) := by decide +kernel
theorem dX2_warmer_13 : decode cX2_warmer 13 = .ok (.iload_n 1, 1) := by decide +kernel
theorem dX2_warmer_14 : decode cX2_warmer 14 = .ok (.iaload, 1) := by decide +kernel
theorem dX2_warmer_15 : decode cX2_warmer 15 = .ok (.getstatic 103, 3) := by decide +kernel
theorem dX2_warmer_18 : decode cX2_warmer 18 = .ok (.arraylength, 1) := by decide +kernel
theorem dX2_warmer_19 : decode cX2_warmer 19 = .ok (.if_icmp .ge 16, 3) := by decide +kernel
theorem dX2_warmer_22 : decode cX2_warmer 22 = .ok (.getstatic 103, 3) := by decide +kernel
theorem dX2_warmer_25 : decode cX2_warmer 25 = .ok (.aload_n 0, 1) := by decide +kernel
theorem dX2_warmer_26 : decode cX2_warmer 26 = .ok (.getfield 45, 3) := by decide +kernel
theorem dX2_warmer_29 : decode cX2_warmer 29 = .ok (.iload_n 1, 1) := by decide +kernel
theorem dX2_warmer_30 : decode cX2_warmer 30 = .ok (.iaload, 1) := by decide +kernel
theorem dX2_warmer_31 : decode cX2_warmer 31 = .ok (.iaload, 1) := by decide +kernel
theorem dX2_warmer_32 : decode cX2_warmer 32 = .ok (.goto 4, 3) := by decide +kernel
theorem dX2_warmer_35 : decode cX2_warmer 35 = .ok (.iconst 0, 1) := by decide +kernel
theorem dX2_warmer_36 : decode cX2_warmer 36 = .ok (.ireturn, 1) := by decide +kernel
theorem dX2_hatsOn_0 : decode cX2_hatsOn 0 = .ok (.iconst 0, 1) := by decide +kernel
theorem dX2_hatsOn_1 : decode cX2_hatsOn 1 = .ok (.istore_n 2, 1) := by decide +kernel
theorem dX2_hatsOn_2 : decode cX2_hatsOn 2 = .ok (.iconst 0, 1) := by decide +kernel
theorem dX2_hatsOn_3 : decode cX2_hatsOn 3 = .ok (.istore_n 3, 1) := by decide +kernel
theorem dX2_hatsOn_4 : decode cX2_hatsOn 4 = .ok (.iload_n 3, 1) := by decide +kernel
theorem dX2_hatsOn_5 : decode cX2_hatsOn 5 = .ok (.aload_n 0, 1) := by decide +kernel
theorem dX2_hatsOn_6 : decode cX2_hatsOn 6 = .ok (.getfield 48, 3) := by decide +kernel
theorem dX2_hatsOn_9 : decode cX2_hatsOn 9 = .ok (.if_icmp .ge 31, 3) := by decide +kernel
theorem dX2_hatsOn_12 : decode cX2_hatsOn 12 = .ok (.aload_n 0, 1) := by decide +kernel
theorem dX2_hatsOn_13 : decode cX2_hatsOn 13 = .ok (.iload_n 3, 1) := by decide +kernel
theorem dX2_hatsOn_14 : decode cX2_hatsOn 14 = .ok (.iload_n 1, 1) := by decide +kernel
theorem dX2_hatsOn_15 : decode cX2_hatsOn 15 = .ok (.invokevirtual 96, 3) := by decide +kernel
theorem dX2_hatsOn_18 : decode cX2_hatsOn 18 = .ok (.ifCond .eq 16, 3) := by decide +kernel
theorem dX2_hatsOn_21 : decode cX2_hatsOn 21 = .ok (.aload_n 0, 1) := by decide +kernel
theorem dX2_hatsOn_22 : decode cX2_hatsOn 22 = .ok (.getfield 9, 3) := by decide +kernel
theorem dX2_hatsOn_25 : decode cX2_hatsOn 25 = .ok (.iload_n 3, 1) := by decide +kernel
theorem dX2_hatsOn_26 : decode cX2_hatsOn 26 = .ok (.iaload, 1) := by decide +kernel
theorem dX2_hatsOn_27 : decode cX2_hatsOn 27 = .ok (.iconst 2, 1) := by decide +kernel
theorem dX2_hatsOn_28 : decode cX2_hatsOn 28 = .ok (.if_icmp .eq 6, 3) := by decide +kernel
theorem dX2_hatsOn_31 : decode cX2_hatsOn 31 = .ok (.iinc 2 1, 3) := by decide +kernel
theorem dX2_hatsOn_34 : decode cX2_hatsOn 34 = .ok (.iinc 3 1, 3) := by decide +kernel
theorem dX2_hatsOn_37 : decode cX2_hatsOn 37 = .ok (.goto (-33), 3) := by decide +kernel
theorem dX2_hatsOn_40 : decode cX2_hatsOn 40 = .ok (.iload_n 2, 1) := by decide +kernel
theorem dX2_hatsOn_41 : decode cX2_hatsOn 41 = .ok (.ireturn, 1) := by decide +kernel
theorem dX2_stepOn_0 : decode cX2_stepOn 0 = .ok (.iconst 0, 1) := by decide +kernel
theorem dX2_stepOn_1 : decode cX2_stepOn 1 = .ok (.istore_n 2, 1) := by decide +kernel
theorem dX2_stepOn_2 : decode cX2_stepOn 2 = .ok (.iconst 0, 1) := by decide +kernel
theorem dX2_stepOn_3 : decode cX2_stepOn 3 = .ok (.istore_n 3, 1) := by decide +kernel
theorem dX2_stepOn_4 : decode cX2_stepOn 4 = .ok (.iload_n 3, 1) := by decide +kernel
theorem dX2_stepOn_5 : decode cX2_stepOn 5 = .ok (.aload_n 0, 1) := by decide +kernel
theorem dX2_stepOn_6 : decode cX2_stepOn 6 = .ok (.getfield 48, 3) := by decide +kernel
theorem dX2_stepOn_9 : decode cX2_stepOn 9 = .ok (.if_icmp .ge 25, 3) := by decide +kernel
theorem dX2_stepOn_12 : decode cX2_stepOn 12 = .ok (.aload_n 0, 1) := by decide +kernel
theorem dX2_stepOn_13 : decode cX2_stepOn 13 = .ok (.iload_n 3, 1) := by decide +kernel
theorem dX2_stepOn_14 : decode cX2_stepOn 14 = .ok (.iload_n 1, 1) := by decide +kernel
theorem dX2_stepOn_15 : decode cX2_stepOn 15 = .ok (.invokevirtual 106, 3) := by decide +kernel
theorem dX2_stepOn_18 : decode cX2_stepOn 18 = .ok (.iconst 1, 1) := by decide +kernel
theorem dX2_stepOn_19 : decode cX2_stepOn 19 = .ok (.if_icmp .ne 9, 3) := by decide +kernel
theorem dX2_stepOn_22 : decode cX2_stepOn 22 = .ok (.iload_n 2, 1) := by decide +kernel
theorem dX2_stepOn_23 : decode cX2_stepOn 23 = .ok (.iconst 1, 1) := by decide +kernel
theorem dX2_stepOn_24 : decode cX2_stepOn 24 = .ok (.iload_n 3, 1) := by decide +kernel
theorem dX2_stepOn_25 : decode cX2_stepOn 25 = .ok (.ishl, 1) := by decide +kernel
theorem dX2_stepOn_26 : decode cX2_stepOn 26 = .ok (.ior, 1) := by decide +kernel
theorem dX2_stepOn_27 : decode cX2_stepOn 27 = .ok (.istore_n 2, 1) := by decide +kernel
theorem dX2_stepOn_28 : decode cX2_stepOn 28 = .ok (.iinc 3 1, 3) := by decide +kernel
theorem dX2_stepOn_31 : decode cX2_stepOn 31 = .ok (.goto (-27), 3) := by decide +kernel
theorem dX2_stepOn_34 : decode cX2_stepOn 34 = .ok (.iload_n 2, 1) := by decide +kernel
theorem dX2_stepOn_35 : decode cX2_stepOn 35 = .ok (.ireturn, 1) := by decide +kernel
theorem dX2_total_0 : decode cX2_total 0 = .ok (.iconst 0, 1) := by decide +kernel
theorem dX2_total_1 : decode cX2_total 1 = .ok (.istore_n 1, 1) := by decide +kernel
theorem dX2_total_2 : decode cX2_total 2 = .ok (.iconst 0, 1) := by decide +kernel
theorem dX2_total_3 : decode cX2_total 3 = .ok (.istore_n 2, 1) := by decide +kernel
theorem dX2_total_4 : decode cX2_total 4 = .ok (.iload_n 2, 1) := by decide +kernel
theorem dX2_total_5 : decode cX2_total 5 = .ok (.aload_n 0, 1) := by decide +kernel
theorem dX2_total_6 : decode cX2_total 6 = .ok (.getfield 48, 3) := by decide +kernel
theorem dX2_total_9 : decode cX2_total 9 = .ok (.if_icmp .ge 46, 3) := by decide +kernel
theorem dX2_total_12 : decode cX2_total 12 = .ok (.aload_n 0, 1) := by decide +kernel
theorem dX2_total_13 : decode cX2_total 13 = .ok (.getfield 39, 3) := by decide +kernel
theorem dX2_total_16 : decode cX2_total 16 = .ok (.iload_n 2, 1) := by decide +kernel
theorem dX2_total_17 : decode cX2_total 17 = .ok (.iaload, 1) := by decide +kernel
theorem dX2_total_18 : decode cX2_total 18 = .ok (.iconst (-1), 1) := by decide +kernel
theorem dX2_total_19 : decode cX2_total 19 = .ok (.if_icmp .eq 30, 3) := by decide +kernel
theorem dX2_total_22 : decode cX2_total 22 = .ok (.iload_n 1, 1) := by decide +kernel
theorem dX2_total_23 : decode cX2_total 23 = .ok (.aload_n 0, 1) := by decide +kernel
theorem dX2_total_24 : decode cX2_total 24 = .ok (.iload_n 2, 1) := by decide +kernel
theorem dX2_total_25 : decode cX2_total 25 = .ok (.invokevirtual 100, 3) := by decide +kernel
theorem dX2_total_28 : decode cX2_total 28 = .ok (.aload_n 0, 1) := by decide +kernel
theorem dX2_total_29 : decode cX2_total 29 = .ok (.getfield 21, 3) := by decide +kernel
theorem dX2_total_32 : decode cX2_total 32 = .ok (.iload_n 2, 1) := by decide +kernel
theorem dX2_total_33 : decode cX2_total 33 = .ok (.iaload, 1) := by decide +kernel
theorem dX2_total_34 : decode cX2_total 34 = .ok (.bipush 24, 2) := by decide +kernel
theorem dX2_total_36 : decode cX2_total 36 = .ok (.aload_n 0, 1) := by decide +kernel
theorem dX2_total_37 : decode cX2_total 37 = .ok (.getfield 39, 3) := by decide +kernel
theorem dX2_total_40 : decode cX2_total 40 = .ok (.iload_n 2, 1) := by decide +kernel
theorem dX2_total_41 : decode cX2_total 41 = .ok (.iaload, 1) := by decide +kernel
theorem dX2_total_42 : decode cX2_total 42 = .ok (.isub, 1) := by decide +kernel
theorem dX2_total_43 : decode cX2_total 43 = .ok (.invokestatic 59, 3) := by decide +kernel
theorem dX2_total_46 : decode cX2_total 46 = .ok (.imul, 1) := by decide +kernel
theorem dX2_total_47 : decode cX2_total 47 = .ok (.iadd, 1) := by decide +kernel
theorem dX2_total_48 : decode cX2_total 48 = .ok (.istore_n 1, 1) := by decide +kernel
theorem dX2_total_49 : decode cX2_total 49 = .ok (.iinc 2 1, 3) := by decide +kernel
theorem dX2_total_52 : decode cX2_total 52 = .ok (.goto (-48), 3) := by decide +kernel
theorem dX2_total_55 : decode cX2_total 55 = .ok (.iload_n 1, 1) := by decide +kernel
theorem dX2_total_56 : decode cX2_total 56 = .ok (.ireturn, 1) := by decide +kernel
theorem dX2_everIn_0 : decode cX2_everIn 0 = .ok (.aload_n 0, 1) := by decide +kernel
theorem dX2_everIn_1 : decode cX2_everIn 1 = .ok (.aload_n 0, 1) := by decide +kernel
theorem dX2_everIn_2 : decode cX2_everIn 2 = .ok (.getfield 39, 3) := by decide +kernel
theorem dX2_everIn_5 : decode cX2_everIn 5 = .ok (.invokevirtual 109, 3) := by decide +kernel
theorem dX2_everIn_8 : decode cX2_everIn 8 = .ok (.ireturn, 1) := by decide +kernel
theorem dX2_sentBits_0 : decode cX2_sentBits 0 = .ok (.aload_n 0, 1) := by decide +kernel
theorem dX2_sentBits_1 : decode cX2_sentBits 1 = .ok (.aload_n 0, 1) := by decide +kernel
theorem dX2_sentBits_2 : decode cX2_sentBits 2 = .ok (.getfield 42, 3) := by decide +kernel
theorem dX2_sentBits_5 : decode cX2_sentBits 5 = .ok (.invokevirtual 109, 3) := by decide +kernel
theorem dX2_sentBits_8 : decode cX2_sentBits 8 = .ok (.ireturn, 1) := by decide +kernel
theorem dX2_thoseWithADay_0 : decode cX2_thoseWithADay 0 = .ok (.iconst 0, 1) := by decide +kernel
theorem dX2_thoseWithADay_1 : decode cX2_thoseWithADay 1 = .ok (.istore_n 2, 1) := by decide +kernel
theorem dX2_thoseWithADay_2 : decode cX2_thoseWithADay 2 = .ok (.iconst 0, 1) := by decide +kernel
theorem dX2_thoseWithADay_3 : decode cX2_thoseWithADay 3 = .ok (.istore_n 3, 1) := by decide +kernel
theorem dX2_thoseWithADay_4 : decode cX2_thoseWithADay 4 = .ok (.iload_n 3, 1) := by decide +kernel
theorem dX2_thoseWithADay_5 : decode cX2_thoseWithADay 5 = .ok (.aload_n 0, 1) := by decide +kernel
theorem dX2_thoseWithADay_6 : decode cX2_thoseWithADay 6 = .ok (.getfield 48, 3) := by decide +kernel
theorem dX2_thoseWithADay_9 : decode cX2_thoseWithADay 9 = .ok (.if_icmp .ge 28, 3) := by decide +kernel
theorem dX2_thoseWithADay_12 : decode cX2_thoseWithADay 12 = .ok (.iload_n 3, 1) := by decide +kernel
theorem dX2_thoseWithADay_13 : decode cX2_thoseWithADay 13 = .ok (.aload_n 1, 1) := by decide +kernel
theorem dX2_thoseWithADay_14 : decode cX2_thoseWithADay 14 = .ok (.arraylength, 1) := by decide +kernel
theorem dX2_thoseWithADay_15 : decode cX2_thoseWithADay 15 = .ok (.if_icmp .ge 22, 3) := by decide +kernel
theorem dX2_thoseWithADay_18 : decode cX2_thoseWithADay 18 = .ok (.aload_n 1, 1) := by decide +kernel
theorem dX2_thoseWithADay_19 : decode cX2_thoseWithADay 19 = .ok (.iload_n 3, 1) := by decide +kernel
theorem dX2_thoseWithADay_20 : decode cX2_thoseWithADay 20 = .ok (.iaload, 1) := by decide +kernel
theorem dX2_thoseWithADay_21 : decode cX2_thoseWithADay 21 = .ok (.iconst (-1), 1) := by decide +kernel
theorem dX2_thoseWithADay_22 : decode cX2_thoseWithADay 22 = .ok (.if_icmp .eq 9, 3) := by decide +kernel
theorem dX2_thoseWithADay_25 : decode cX2_thoseWithADay 25 = .ok (.iload_n 2, 1) := by decide +kernel
theorem dX2_thoseWithADay_26 : decode cX2_thoseWithADay 26 = .ok (.iconst 1, 1) := by decide +kernel
theorem dX2_thoseWithADay_27 : decode cX2_thoseWithADay 27 = .ok (.iload_n 3, 1) := by decide +kernel
theorem dX2_thoseWithADay_28 : decode cX2_thoseWithADay 28 = .ok (.ishl, 1) := by decide +kernel
theorem dX2_thoseWithADay_29 : decode cX2_thoseWithADay 29 = .ok (.ior, 1) := by decide +kernel
theorem dX2_thoseWithADay_30 : decode cX2_thoseWithADay 30 = .ok (.istore_n 2, 1) := by decide +kernel
theorem dX2_thoseWithADay_31 : decode cX2_thoseWithADay 31 = .ok (.iinc 3 1, 3) := by decide +kernel
theorem dX2_thoseWithADay_34 : decode cX2_thoseWithADay 34 = .ok (.goto (-30), 3) := by decide +kernel
theorem dX2_thoseWithADay_37 : decode cX2_thoseWithADay 37 = .ok (.iload_n 2, 1) := by decide +kernel
theorem dX2_thoseWithADay_38 : decode cX2_thoseWithADay 38 = .ok (.ireturn, 1) := by decide +kernel
theorem dX2_misnamed_0 : decode cX2_misnamed 0 = .ok (.iconst 0, 1) := by decide +kernel
theorem dX2_misnamed_1 : decode cX2_misnamed 1 = .ok (.istore_n 1, 1) := by decide +kernel
theorem dX2_misnamed_2 : decode cX2_misnamed 2 = .ok (.iconst 0, 1) := by decide +kernel
theorem dX2_misnamed_3 : decode cX2_misnamed 3 = .ok (.istore_n 2, 1) := by decide +kernel
theorem dX2_misnamed_4 : decode cX2_misnamed 4 = .ok (.iload_n 2, 1) := by decide +kernel
theorem dX2_misnamed_5 : decode cX2_misnamed 5 = .ok (.aload_n 0, 1) := by decide +kernel
theorem dX2_misnamed_6 : decode cX2_misnamed 6 = .ok (.getfield 48, 3) := by decide +kernel
theorem dX2_misnamed_9 : decode cX2_misnamed 9 = .ok (.if_icmp .ge 40, 3) := by decide +kernel
theorem dX2_misnamed_12 : decode cX2_misnamed 12 = .ok (.aload_n 0, 1) := by decide +kernel
theorem dX2_misnamed_13 : decode cX2_misnamed 13 = .ok (.getfield 45, 3) := by decide +kernel
theorem dX2_misnamed_16 : decode cX2_misnamed 16 = .ok (.iload_n 2, 1) := by decide +kernel
theorem dX2_misnamed_17 : decode cX2_misnamed 17 = .ok (.iaload, 1) := by decide +kernel
theorem dX2_misnamed_18 : decode cX2_misnamed 18 = .ok (.iconst (-1), 1) := by decide +kernel
theorem dX2_misnamed_19 : decode cX2_misnamed 19 = .ok (.if_icmp .eq 24, 3) := by decide +kernel
theorem dX2_misnamed_22 : decode cX2_misnamed 22 = .ok (.aload_n 0, 1) := by decide +kernel
theorem dX2_misnamed_23 : decode cX2_misnamed 23 = .ok (.getfield 45, 3) := by decide +kernel
theorem dX2_misnamed_26 : decode cX2_misnamed 26 = .ok (.iload_n 2, 1) := by decide +kernel
theorem dX2_misnamed_27 : decode cX2_misnamed 27 = .ok (.iaload, 1) := by decide +kernel
theorem dX2_misnamed_28 : decode cX2_misnamed 28 = .ok (.aload_n 0, 1) := by decide +kernel
theorem dX2_misnamed_29 : decode cX2_misnamed 29 = .ok (.getfield 9, 3) := by decide +kernel
theorem dX2_misnamed_32 : decode cX2_misnamed 32 = .ok (.iload_n 2, 1) := by decide +kernel
theorem dX2_misnamed_33 : decode cX2_misnamed 33 = .ok (.iaload, 1) := by decide +kernel
theorem dX2_misnamed_34 : decode cX2_misnamed 34 = .ok (.if_icmp .eq 9, 3) := by decide +kernel
theorem dX2_misnamed_37 : decode cX2_misnamed 37 = .ok (.iload_n 1, 1) := by decide +kernel
theorem dX2_misnamed_38 : decode cX2_misnamed 38 = .ok (.iconst 1, 1) := by decide +kernel
theorem dX2_misnamed_39 : decode cX2_misnamed 39 = .ok (.iload_n 2, 1) := by decide +kernel
theorem dX2_misnamed_40 : decode cX2_misnamed 40 = .ok (.ishl, 1) := by decide +kernel
theorem dX2_misnamed_41 : decode cX2_misnamed 41 = .ok (.ior, 1) := by decide +kernel
theorem dX2_misnamed_42 : decode cX2_misnamed 42 = .ok (.istore_n 1, 1) := by decide +kernel
theorem dX2_misnamed_43 : decode cX2_misnamed 43 = .ok (.iinc 2 1, 3) := by decide +kernel
theorem dX2_misnamed_46 : decode cX2_misnamed 46 = .ok (.goto (-42), 3) := by decide +kernel
theorem dX2_misnamed_49 : decode cX2_misnamed 49 = .ok (.iload_n 1, 1) := by decide +kernel
theorem dX2_misnamed_50 : decode cX2_misnamed 50 = .ok (.ireturn, 1) := by decide +kernel
theorem dX2_hasNamed_0 : decode cX2_hasNamed 0 = .ok (.iconst 0, 1) := by decide +kernel
theorem dX2_hasNamed_1 : decode cX2_hasNamed 1 = .ok (.istore_n 2, 1) := by decide +kernel
theorem dX2_hasNamed_2 : decode cX2_hasNamed 2 = .ok (.iload_n 2, 1) := by decide +kernel
theorem dX2_hasNamed_3 : decode cX2_hasNamed 3 = .ok (.aload_n 0, 1) := by decide +kernel
theorem dX2_hasNamed_4 : decode cX2_hasNamed 4 = .ok (.getfield 48, 3) := by decide +kernel
theorem dX2_hasNamed_7 : decode cX2_hasNamed 7 = .ok (.if_icmp .ge 21, 3) := by decide +kernel
theorem dX2_hasNamed_10 : decode cX2_hasNamed 10 = .ok (.aload_n 0, 1) := by decide +kernel
theorem dX2_hasNamed_11 : decode cX2_hasNamed 11 = .ok (.getfield 45, 3) := by decide +kernel
theorem dX2_hasNamed_14 : decode cX2_hasNamed 14 = .ok (.iload_n 2, 1) := by decide +kernel
theorem dX2_hasNamed_15 : decode cX2_hasNamed 15 = .ok (.iaload, 1) := by decide +kernel
theorem dX2_hasNamed_16 : decode cX2_hasNamed 16 = .ok (.iload_n 1, 1) := by decide +kernel
theorem dX2_hasNamed_17 : decode cX2_hasNamed 17 = .ok (.if_icmp .ne 5, 3) := by decide +kernel
theorem dX2_hasNamed_20 : decode cX2_hasNamed 20 = .ok (.iconst 1, 1) := by decide +kernel
theorem dX2_hasNamed_21 : decode cX2_hasNamed 21 = .ok (.ireturn, 1) := by decide +kernel
theorem dX2_hasNamed_22 : decode cX2_hasNamed 22 = .ok (.iinc 2 1, 3) := by decide +kernel
theorem dX2_hasNamed_25 : decode cX2_hasNamed 25 = .ok (.goto (-23), 3) := by decide +kernel
theorem dX2_hasNamed_28 : decode cX2_hasNamed 28 = .ok (.iconst 0, 1) := by decide +kernel
theorem dX2_hasNamed_29 : decode cX2_hasNamed 29 = .ok (.ireturn, 1) := by decide +kernel
theorem dX2_firstByDoor_0 : decode cX2_firstByDoor 0 = .ok (.iconst (-1), 1) := by decide +kernel
theorem dX2_firstByDoor_1 : decode cX2_firstByDoor 1 = .ok (.istore_n 1, 1) := by decide +kernel
theorem dX2_firstByDoor_2 : decode cX2_firstByDoor 2 = .ok (.iconst 0, 1) := by decide +kernel
theorem dX2_firstByDoor_3 : decode cX2_firstByDoor 3 = .ok (.istore_n 2, 1) := by decide +kernel
theorem dX2_firstByDoor_4 : decode cX2_firstByDoor 4 = .ok (.iload_n 2, 1) := by decide +kernel
theorem dX2_firstByDoor_5 : decode cX2_firstByDoor 5 = .ok (.aload_n 0, 1) := by decide +kernel
theorem dX2_firstByDoor_6 : decode cX2_firstByDoor 6 = .ok (.getfield 48, 3) := by decide +kernel
theorem dX2_firstByDoor_9 : decode cX2_firstByDoor 9 = .ok (.if_icmp .ge 51, 3) := by decide +kernel
theorem dX2_firstByDoor_12 : decode cX2_firstByDoor 12 = .ok (.aload_n 0, 1) := by decide +kernel
theorem dX2_firstByDoor_13 : decode cX2_firstByDoor 13 = .ok (.getfield 39, 3) := by decide +kernel
theorem dX2_firstByDoor_16 : decode cX2_firstByDoor 16 = .ok (.iload_n 2, 1) := by decide +kernel
theorem dX2_firstByDoor_17 : decode cX2_firstByDoor 17 = .ok (.iaload, 1) := by decide +kernel
theorem dX2_firstByDoor_18 : decode cX2_firstByDoor 18 = .ok (.iconst (-1), 1) := by decide +kernel
theorem dX2_firstByDoor_19 : decode cX2_firstByDoor 19 = .ok (.if_icmp .eq 35, 3) := by decide +kernel
theorem dX2_firstByDoor_22 : decode cX2_firstByDoor 22 = .ok (.aload_n 0, 1) := by decide +kernel
theorem dX2_firstByDoor_23 : decode cX2_firstByDoor 23 = .ok (.getfield 9, 3) := by decide +kernel
theorem dX2_firstByDoor_26 : decode cX2_firstByDoor 26 = .ok (.iload_n 2, 1) := by decide +kernel
theorem dX2_firstByDoor_27 : decode cX2_firstByDoor 27 = .ok (.iaload, 1) := by decide +kernel
theorem dX2_firstByDoor_28 : decode cX2_firstByDoor 28 = .ok (.iconst 2, 1) := by decide +kernel
theorem dX2_firstByDoor_29 : decode cX2_firstByDoor 29 = .ok (.if_icmp .eq 25, 3) := by decide +kernel
theorem dX2_firstByDoor_32 : decode cX2_firstByDoor 32 = .ok (.iload_n 1, 1) := by decide +kernel
theorem dX2_firstByDoor_33 : decode cX2_firstByDoor 33 = .ok (.iconst (-1), 1) := by decide +kernel
theorem dX2_firstByDoor_34 : decode cX2_firstByDoor 34 = .ok (.if_icmp .eq 18, 3) := by decide +kernel
theorem dX2_firstByDoor_37 : decode cX2_firstByDoor 37 = .ok (.aload_n 0, 1) := by decide +kernel
theorem dX2_firstByDoor_38 : decode cX2_firstByDoor 38 = .ok (.getfield 39, 3) := by decide +kernel
theorem dX2_firstByDoor_41 : decode cX2_firstByDoor 41 = .ok (.iload_n 2, 1) := by decide +kernel
theorem dX2_firstByDoor_42 : decode cX2_firstByDoor 42 = .ok (.iaload, 1) := by decide +kernel
theorem dX2_firstByDoor_43 : decode cX2_firstByDoor 43 = .ok (.aload_n 0, 1) := by decide +kernel
theorem dX2_firstByDoor_44 : decode cX2_firstByDoor 44 = .ok (.getfield 39, 3) := by decide +kernel
theorem dX2_firstByDoor_47 : decode cX2_firstByDoor 47 = .ok (.iload_n 1, 1) := by decide +kernel
theorem dX2_firstByDoor_48 : decode cX2_firstByDoor 48 = .ok (.iaload, 1) := by decide +kernel
theorem dX2_firstByDoor_49 : decode cX2_firstByDoor 49 = .ok (.if_icmp .ge 5, 3) := by decide +kernel
theorem dX2_firstByDoor_52 : decode cX2_firstByDoor 52 = .ok (.iload_n 2, 1) := by decide +kernel
theorem dX2_firstByDoor_53 : decode cX2_firstByDoor 53 = .ok (.istore_n 1, 1) := by decide +kernel
theorem dX2_firstByDoor_54 : decode cX2_firstByDoor 54 = .ok (.iinc 2 1, 3) := by decide +kernel
theorem dX2_firstByDoor_57 : decode cX2_firstByDoor 57 = .ok (.goto (-53), 3) := by decide +kernel
theorem dX2_firstByDoor_60 : decode cX2_firstByDoor 60 = .ok (.iload_n 1, 1) := by decide +kernel
theorem dX2_firstByDoor_61 : decode cX2_firstByDoor 61 = .ok (.ireturn, 1) := by decide +kernel
theorem dX3_init_0 : decode cX3_init 0 = .ok (.aload_n 0, 1) := by decide +kernel
theorem dX3_init_1 : decode cX3_init 1 = .ok (.invokespecial 3, 3) := by decide +kernel
theorem dX3_init_4 : decode cX3_init 4 = .ok (.aload_n 0, 1) := by decide +kernel
theorem dX3_init_5 : decode cX3_init 5 = .ok (.bipush 8, 2) := by decide +kernel
theorem dX3_init_7 : decode cX3_init 7 = .ok (.bipush 9, 2) := by decide +kernel
theorem dX3_init_9 : decode cX3_init 9 = .ok (.multianewarray 9 2, 4) := by decide +kernel
theorem dX3_init_13 : decode cX3_init 13 = .ok (.putfield 11, 3) := by decide +kernel
theorem dX3_init_16 : decode cX3_init 16 = .ok (.aload_n 0, 1) := by decide +kernel
theorem dX3_init_17 : decode cX3_init 17 = .ok (.bipush 9, 2) := by decide +kernel
theorem dX3_init_19 : decode cX3_init 19 = .ok (.bipush 24, 2) := by decide +kernel
theorem dX3_init_21 : decode cX3_init 21 = .ok (.multianewarray 9 2, 4) := by decide +kernel
theorem dX3_init_25 : decode cX3_init 25 = .ok (.putfield 16, 3) := by decide +kernel
theorem dX3_init_28 : decode cX3_init 28 = .ok (.return_, 1) := by decide +kernel
theorem dX3_countWays_0 : decode cX3_countWays 0 = .ok (.iconst 0, 1) := by decide +kernel
theorem dX3_countWays_1 : decode cX3_countWays 1 = .ok (.istore_n 3, 1) := by decide +kernel
theorem dX3_countWays_2 : decode cX3_countWays 2 = .ok (.iload_n 3, 1) := by decide +kernel
theorem dX3_countWays_3 : decode cX3_countWays 3 = .ok (.bipush 8, 2) := by decide +kernel
theorem dX3_countWays_5 : decode cX3_countWays 5 = .ok (.if_icmp .ge 35, 3) := by decide +kernel
theorem dX3_countWays_8 : decode cX3_countWays 8 = .ok (.iconst 0, 1) := by decide +kernel
theorem dX3_countWays_9 : decode cX3_countWays 9 = .ok (.istore 4, 2) := by decide +kernel
theorem dX3_countWays_11 : decode cX3_countWays 11 = .ok (.iload 4, 2) := by decide +kernel
theorem dX3_countWays_13 : decode cX3_countWays 13 = .ok (.bipush 8, 2) := by decide +kernel
theorem dX3_countWays_15 : decode cX3_countWays 15 = .ok (.if_icmp .gt 19, 3) := by decide +kernel
theorem dX3_countWays_18 : decode cX3_countWays 18 = .ok (.aload_n 0, 1) := by decide +kernel
theorem dX3_countWays_19 : decode cX3_countWays 19 = .ok (.getfield 11, 3) := by decide +kernel
theorem dX3_countWays_22 : decode cX3_countWays 22 = .ok (.iload_n 3, 1) := by decide +kernel
theorem dX3_countWays_23 : decode cX3_countWays 23 = .ok (.aaload, 1) := by decide +kernel
theorem dX3_countWays_24 : decode cX3_countWays 24 = .ok (.iload 4, 2) := by decide +kernel
theorem dX3_countWays_26 : decode cX3_countWays 26 = .ok (.iconst 0, 1) := by decide +kernel
theorem dX3_countWays_27 : decode cX3_countWays 27 = .ok (.iastore, 1) := by decide +kernel
theorem dX3_countWays_28 : decode cX3_countWays 28 = .ok (.iinc 4 1, 3) := by decide +kernel
theorem dX3_countWays_31 : decode cX3_countWays 31 = .ok (.goto (-20), 3) := by decide +kernel
theorem dX3_countWays_34 : decode cX3_countWays 34 = .ok (.iinc 3 1, 3) := by decide +kernel
theorem dX3_countWays_37 : decode cX3_countWays 37 = .ok (.goto (-35), 3) := by decide +kernel
theorem dX3_countWays_40 : decode cX3_countWays 40 = .ok (.iconst 0, 1) := by decide +kernel
theorem dX3_countWays_41 : decode cX3_countWays 41 = .ok (.istore_n 3, 1) := by decide +kernel
theorem dX3_countWays_42 : decode cX3_countWays 42 = .ok (.iload_n 3, 1) := by decide +kernel
theorem dX3_countWays_43 : decode cX3_countWays 43 = .ok (.iconst 1, 1) := by decide +kernel
theorem dX3_countWays_44 : decode cX3_countWays 44 = .ok (.aload_n 2, 1) := by decide +kernel
theorem dX3_countWays_45 : decode cX3_countWays 45 = .ok (.getfield 19, 3) := by decide +kernel
theorem dX3_countWays_48 : decode cX3_countWays 48 = .ok (.ishl, 1) := by decide +kernel
theorem dX3_countWays_49 : decode cX3_countWays 49 = .ok (.if_icmp .ge 84, 3) := by decide +kernel
theorem dX3_countWays_52 : decode cX3_countWays 52 = .ok (.aload_n 2, 1) := by decide +kernel
theorem dX3_countWays_53 : decode cX3_countWays 53 = .ok (.iload_n 3, 1) := by decide +kernel
theorem dX3_countWays_54 : decode cX3_countWays 54 = .ok (.aload_n 1, 1) := by decide +kernel
theorem dX3_countWays_55 : decode cX3_countWays 55 = .ok (.invokevirtual 25, 3) := by decide +kernel
theorem dX3_countWays_58 : decode cX3_countWays 58 = .ok (.aload_n 1, 1) := by decide +kernel
theorem dX3_countWays_59 : decode cX3_countWays 59 = .ok (.invokevirtual 29, 3) := by decide +kernel
theorem dX3_countWays_62 : decode cX3_countWays 62 = .ok (.aload_n 2, 1) := by decide +kernel
theorem dX3_countWays_63 : decode cX3_countWays 63 = .ok (.getfield 19, 3) := by decide +kernel
theorem dX3_countWays_66 : decode cX3_countWays 66 = .ok (.iload_n 3, 1) := by decide +kernel
theorem dX3_countWays_67 : decode cX3_countWays 67 = .ok (.invokestatic 34, 3) := by decide +kernel
theorem dX3_countWays_70 : decode cX3_countWays 70 = .ok (.isub, 1) := by decide +kernel
theorem dX3_countWays_71 : decode cX3_countWays 71 = .ok (.istore 4, 2) := by decide +kernel
theorem dX3_countWays_73 : decode cX3_countWays 73 = .ok (.iconst 0, 1) := by decide +kernel
theorem dX3_countWays_74 : decode cX3_countWays 74 = .ok (.istore 5, 2) := by decide +kernel
theorem dX3_countWays_76 : decode cX3_countWays 76 = .ok (.iload 5, 2) := by decide +kernel
theorem dX3_countWays_78 : decode cX3_countWays 78 = .ok (.aload_n 1, 1) := by decide +kernel
theorem dX3_countWays_79 : decode cX3_countWays 79 = .ok (.getfield 40, 3) := by decide +kernel
theorem dX3_countWays_82 : decode cX3_countWays 82 = .ok (.if_icmp .ge 45, 3) := by decide +kernel
theorem dX3_countWays_85 : decode cX3_countWays 85 = .ok (.aload_n 1, 1) := by decide +kernel
theorem dX3_countWays_86 : decode cX3_countWays 86 = .ok (.getfield 43, 3) := by decide +kernel
theorem dX3_countWays_89 : decode cX3_countWays 89 = .ok (.iload 5, 2) := by decide +kernel
theorem dX3_countWays_91 : decode cX3_countWays 91 = .ok (.iaload, 1) := by decide +kernel
theorem dX3_countWays_92 : decode cX3_countWays 92 = .ok (.iconst (-1), 1) := by decide +kernel
theorem dX3_countWays_93 : decode cX3_countWays 93 = .ok (.if_icmp .eq 28, 3) := by decide +kernel
theorem dX3_countWays_96 : decode cX3_countWays 96 = .ok (.iload 4, 2) := by decide +kernel
theorem dX3_countWays_98 : decode cX3_countWays 98 = .ok (.iconst 0, 1) := by decide +kernel
theorem dX3_countWays_99 : decode cX3_countWays 99 = .ok (.bipush 8, 2) := by decide +kernel
theorem dX3_countWays_101 : decode cX3_countWays 101 = .ok (.invokestatic 47, 3) := by decide +kernel
theorem dX3_countWays_104 : decode cX3_countWays 104 = .ok (.ifCond .eq 17, 3) := by decide +kernel
theorem dX3_countWays_107 : decode cX3_countWays 107 = .ok (.aload_n 0, 1) := by decide +kernel
theorem dX3_countWays_108 : decode cX3_countWays 108 = .ok (.getfield 11, 3) := by decide +kernel
theorem dX3_countWays_111 : decode cX3_countWays 111 = .ok (.iload 5, 2) := by decide +kernel
theorem dX3_countWays_113 : decode cX3_countWays 113 = .ok (.aaload, 1) := by decide +kernel
theorem dX3_countWays_114 : decode cX3_countWays 114 = .ok (.iload 4, 2) := by decide +kernel
theorem dX3_countWays_116 : decode cX3_countWays 116 = .ok (.dup2, 1) := by decide +kernel
theorem dX3_countWays_117 : decode cX3_countWays 117 = .ok (.iaload, 1) := by decide +kernel
theorem dX3_countWays_118 : decode cX3_countWays 118 = .ok (.iconst 1, 1) := by decide +kernel
theorem dX3_countWays_119 : decode cX3_countWays 119 = .ok (.iadd, 1) := by decide +kernel
theorem dX3_countWays_120 : decode cX3_countWays 120 = .ok (.iastore, 1) := by decide +kernel
theorem dX3_countWays_121 : decode cX3_countWays 121 = .ok (.iinc 5 1, 3) := by decide +kernel
theorem dX3_countWays_124 : decode cX3_countWays 124 = .ok (.goto (-48), 3) := by decide +kernel
theorem dX3_countWays_127 : decode cX3_countWays 127 = .ok (.iinc 3 1, 3) := by decide +kernel
theorem dX3_countWays_130 : decode cX3_countWays 130 = .ok (.goto (-88), 3) := by decide +kernel
theorem dX3_countWays_133 : decode cX3_countWays 133 = .ok (.aload_n 0, 1) := by decide +kernel
theorem dX3_countWays_134 : decode cX3_countWays 134 = .ok (.iconst 1, 1) := by decide +kernel
theorem dX3_countWays_135 : decode cX3_countWays 135 = .ok (.putfield 51, 3) := by decide +kernel
theorem dX3_countWays_138 : decode cX3_countWays 138 = .ok (.return_, 1) := by decide +kernel
theorem dX3_above_0 : decode cX3_above 0 = .ok (.lconst 0, 1) := by decide +kernel
theorem dX3_above_1 : decode cX3_above 1 = .ok (.lstore 4, 2) := by decide +kernel
theorem dX3_above_3 : decode cX3_above 3 = .ok (.iconst 0, 1) := by decide +kernel
theorem dX3_above_4 : decode cX3_above 4 = .ok (.istore 6, 2) := by decide +kernel
theorem dX3_above_6 : decode cX3_above 6 = .ok (.iload 6, 2) := by decide +kernel
theorem dX3_above_8 : decode cX3_above 8 = .ok (.iload_n 3, 1) := by decide +kernel
theorem dX3_above_9 : decode cX3_above 9 = .ok (.if_icmp .gt 50, 3) := by decide +kernel
theorem dX3_above_12 : decode cX3_above 12 = .ok (.iload 6, 2) := by decide +kernel
theorem dX3_above_14 : decode cX3_above 14 = .ok (.bipush 8, 2) := by decide +kernel
theorem dX3_above_16 : decode cX3_above 16 = .ok (.if_icmp .gt 43, 3) := by decide +kernel
theorem dX3_above_19 : decode cX3_above 19 = .ok (.lload 4, 2) := by decide +kernel
theorem dX3_above_21 : decode cX3_above 21 = .ok (.aload_n 0, 1) := by decide +kernel
theorem dX3_above_22 : decode cX3_above 22 = .ok (.getfield 11, 3) := by decide +kernel
theorem dX3_above_25 : decode cX3_above 25 = .ok (.iload_n 2, 1) := by decide +kernel
theorem dX3_above_26 : decode cX3_above 26 = .ok (.aaload, 1) := by decide +kernel
theorem dX3_above_27 : decode cX3_above 27 = .ok (.iload 6, 2) := by decide +kernel
theorem dX3_above_29 : decode cX3_above 29 = .ok (.iaload, 1) := by decide +kernel
theorem dX3_above_30 : decode cX3_above 30 = .ok (.i2l, 1) := by decide +kernel
theorem dX3_above_31 : decode cX3_above 31 = .ok (.iload_n 1, 1) := by decide +kernel
theorem dX3_above_32 : decode cX3_above 32 = .ok (.iload 6, 2) := by decide +kernel
theorem dX3_above_34 : decode cX3_above 34 = .ok (.invokestatic 55, 3) := by decide +kernel
theorem dX3_above_37 : decode cX3_above 37 = .ok (.lmul, 1) := by decide +kernel
theorem dX3_above_38 : decode cX3_above 38 = .ok (.bipush 16, 2) := by decide +kernel
theorem dX3_above_40 : decode cX3_above 40 = .ok (.iload_n 1, 1) := by decide +kernel
theorem dX3_above_41 : decode cX3_above 41 = .ok (.isub, 1) := by decide +kernel
theorem dX3_above_42 : decode cX3_above 42 = .ok (.iload_n 3, 1) := by decide +kernel
theorem dX3_above_43 : decode cX3_above 43 = .ok (.iload 6, 2) := by decide +kernel
theorem dX3_above_45 : decode cX3_above 45 = .ok (.isub, 1) := by decide +kernel
theorem dX3_above_46 : decode cX3_above 46 = .ok (.invokestatic 55, 3) := by decide +kernel
theorem dX3_above_49 : decode cX3_above 49 = .ok (.lmul, 1) := by decide +kernel
theorem dX3_above_50 : decode cX3_above 50 = .ok (.ladd, 1) := by decide +kernel
theorem dX3_above_51 : decode cX3_above 51 = .ok (.lstore 4, 2) := by decide +kernel
theorem dX3_above_53 : decode cX3_above 53 = .ok (.iinc 6 1, 3) := by decide +kernel
theorem dX3_above_56 : decode cX3_above 56 = .ok (.goto (-50), 3) := by decide +kernel
theorem dX3_above_59 : decode cX3_above 59 = .ok (.lload 4, 2) := by decide +kernel
theorem dX3_above_61 : decode cX3_above 61 = .ok (.lreturn, 1) := by decide +kernel
theorem dX3_power_0 : decode cX3_power 0 = .ok (.lconst 1, 1) := by decide +kernel
theorem dX3_power_1 : decode cX3_power 1 = .ok (.lstore_n 2, 1) := by decide +kernel
theorem dX3_power_2 : decode cX3_power 2 = .ok (.iconst 0, 1) := by decide +kernel
theorem dX3_power_3 : decode cX3_power 3 = .ok (.istore 4, 2) := by decide +kernel
theorem dX3_power_5 : decode cX3_power 5 = .ok (.iload 4, 2) := by decide +kernel
theorem dX3_power_7 : decode cX3_power 7 = .ok (.iload_n 1, 1) := by decide +kernel
theorem dX3_power_8 : decode cX3_power 8 = .ok (.if_icmp .ge 14, 3) := by decide +kernel
theorem dX3_power_11 : decode cX3_power 11 = .ok (.lload_n 2, 1) := by decide +kernel
theorem dX3_power_12 : decode cX3_power 12 = .ok (.iload_n 0, 1) := by decide +kernel
theorem dX3_power_13 : decode cX3_power 13 = .ok (.i2l, 1) := by decide +kernel
theorem dX3_power_14 : decode cX3_power 14 = .ok (.lmul, 1) := by decide +kernel
theorem dX3_power_15 : decode cX3_power 15 = .ok (.lstore_n 2, 1) := by decide +kernel
theorem dX3_power_16 : decode cX3_power 16 = .ok (.iinc 4 1, 3) := by decide +kernel
theorem dX3_power_19 : decode cX3_power 19 = .ok (.goto (-14), 3) := by decide +kernel
theorem dX3_power_22 : decode cX3_power 22 = .ok (.lload_n 2, 1) := by decide +kernel
theorem dX3_power_23 : decode cX3_power 23 = .ok (.lreturn, 1) := by decide +kernel
theorem dX3_keepFitting_0 : decode cX3_keepFitting 0 = .ok (.iconst 0, 1) := by decide +kernel
theorem dX3_keepFitting_1 : decode cX3_keepFitting 1 = .ok (.istore 4, 2) := by decide +kernel
theorem dX3_keepFitting_3 : decode cX3_keepFitting 3 = .ok (.iconst 1, 1) := by decide +kernel
theorem dX3_keepFitting_4 : decode cX3_keepFitting 4 = .ok (.istore 5, 2) := by decide +kernel
theorem dX3_keepFitting_6 : decode cX3_keepFitting 6 = .ok (.iload 5, 2) := by decide +kernel
theorem dX3_keepFitting_8 : decode cX3_keepFitting 8 = .ok (.bipush 9, 2) := by decide +kernel
theorem dX3_keepFitting_10 : decode cX3_keepFitting 10 = .ok (.if_icmp .gt 71, 3) := by decide +kernel
theorem dX3_keepFitting_13 : decode cX3_keepFitting 13 = .ok (.aload_n 1, 1) := by decide +kernel
theorem dX3_keepFitting_14 : decode cX3_keepFitting 14 = .ok (.getfield 59, 3) := by decide +kernel
theorem dX3_keepFitting_17 : decode cX3_keepFitting 17 = .ok (.iload_n 3, 1) := by decide +kernel
theorem dX3_keepFitting_18 : decode cX3_keepFitting 18 = .ok (.iload 5, 2) := by decide +kernel
theorem dX3_keepFitting_20 : decode cX3_keepFitting 20 = .ok (.iastore, 1) := by decide +kernel
theorem dX3_keepFitting_21 : decode cX3_keepFitting 21 = .ok (.aload_n 1, 1) := by decide +kernel
theorem dX3_keepFitting_22 : decode cX3_keepFitting 22 = .ok (.invokevirtual 29, 3) := by decide +kernel
theorem dX3_keepFitting_25 : decode cX3_keepFitting 25 = .ok (.aload_n 2, 1) := by decide +kernel
theorem dX3_keepFitting_26 : decode cX3_keepFitting 26 = .ok (.aload_n 1, 1) := by decide +kernel
theorem dX3_keepFitting_27 : decode cX3_keepFitting 27 = .ok (.invokevirtual 62, 3) := by decide +kernel
theorem dX3_keepFitting_30 : decode cX3_keepFitting 30 = .ok (.ifCond .eq 45, 3) := by decide +kernel
theorem dX3_keepFitting_33 : decode cX3_keepFitting 33 = .ok (.iload 4, 2) := by decide +kernel
theorem dX3_keepFitting_35 : decode cX3_keepFitting 35 = .ok (.bipush 9, 2) := by decide +kernel
theorem dX3_keepFitting_37 : decode cX3_keepFitting 37 = .ok (.if_icmp .ge 38, 3) := by decide +kernel
theorem dX3_keepFitting_40 : decode cX3_keepFitting 40 = .ok (.iconst 0, 1) := by decide +kernel
theorem dX3_keepFitting_41 : decode cX3_keepFitting 41 = .ok (.istore 6, 2) := by decide +kernel
theorem dX3_keepFitting_43 : decode cX3_keepFitting 43 = .ok (.iload 6, 2) := by decide +kernel
theorem dX3_keepFitting_45 : decode cX3_keepFitting 45 = .ok (.bipush 24, 2) := by decide +kernel
theorem dX3_keepFitting_47 : decode cX3_keepFitting 47 = .ok (.if_icmp .ge 25, 3) := by decide +kernel
theorem dX3_keepFitting_50 : decode cX3_keepFitting 50 = .ok (.aload_n 0, 1) := by decide +kernel
theorem dX3_keepFitting_51 : decode cX3_keepFitting 51 = .ok (.getfield 16, 3) := by decide +kernel
theorem dX3_keepFitting_54 : decode cX3_keepFitting 54 = .ok (.iload 4, 2) := by decide +kernel
theorem dX3_keepFitting_56 : decode cX3_keepFitting 56 = .ok (.aaload, 1) := by decide +kernel
theorem dX3_keepFitting_57 : decode cX3_keepFitting 57 = .ok (.iload 6, 2) := by decide +kernel
theorem dX3_keepFitting_59 : decode cX3_keepFitting 59 = .ok (.aload_n 1, 1) := by decide +kernel
theorem dX3_keepFitting_60 : decode cX3_keepFitting 60 = .ok (.iload 6, 2) := by decide +kernel
theorem dX3_keepFitting_62 : decode cX3_keepFitting 62 = .ok (.invokevirtual 68, 3) := by decide +kernel
theorem dX3_keepFitting_65 : decode cX3_keepFitting 65 = .ok (.iastore, 1) := by decide +kernel
theorem dX3_keepFitting_66 : decode cX3_keepFitting 66 = .ok (.iinc 6 1, 3) := by decide +kernel
theorem dX3_keepFitting_69 : decode cX3_keepFitting 69 = .ok (.goto (-26), 3) := by decide +kernel
theorem dX3_keepFitting_72 : decode cX3_keepFitting 72 = .ok (.iinc 4 1, 3) := by decide +kernel
theorem dX3_keepFitting_75 : decode cX3_keepFitting 75 = .ok (.iinc 5 1, 3) := by decide +kernel
theorem dX3_keepFitting_78 : decode cX3_keepFitting 78 = .ok (.goto (-72), 3) := by decide +kernel
theorem dX3_keepFitting_81 : decode cX3_keepFitting 81 = .ok (.iload 4, 2) := by decide +kernel
theorem dX3_keepFitting_83 : decode cX3_keepFitting 83 = .ok (.ireturn, 1) := by decide +kernel
theorem dX3_greatestAlike_0 : decode cX3_greatestAlike 0 = .ok (.iconst 0, 1) := by decide +kernel
theorem dX3_greatestAlike_1 : decode cX3_greatestAlike 1 = .ok (.istore_n 3, 1) := by decide +kernel
theorem dX3_greatestAlike_2 : decode cX3_greatestAlike 2 = .ok (.iconst 0, 1) := by decide +kernel
theorem dX3_greatestAlike_3 : decode cX3_greatestAlike 3 = .ok (.istore 4, 2) := by decide +kernel
theorem dX3_greatestAlike_5 : decode cX3_greatestAlike 5 = .ok (.iload 4, 2) := by decide +kernel
theorem dX3_greatestAlike_7 : decode cX3_greatestAlike 7 = .ok (.iload_n 1, 1) := by decide +kernel
theorem dX3_greatestAlike_8 : decode cX3_greatestAlike 8 = .ok (.if_icmp .ge 59, 3) := by decide +kernel
theorem dX3_greatestAlike_11 : decode cX3_greatestAlike 11 = .ok (.iconst 0, 1) := by decide +kernel
theorem dX3_greatestAlike_12 : decode cX3_greatestAlike 12 = .ok (.istore 5, 2) := by decide +kernel
theorem dX3_greatestAlike_14 : decode cX3_greatestAlike 14 = .ok (.iload 4, 2) := by decide +kernel
theorem dX3_greatestAlike_16 : decode cX3_greatestAlike 16 = .ok (.istore 6, 2) := by decide +kernel
theorem dX3_greatestAlike_18 : decode cX3_greatestAlike 18 = .ok (.iload 6, 2) := by decide +kernel
theorem dX3_greatestAlike_20 : decode cX3_greatestAlike 20 = .ok (.iload_n 1, 1) := by decide +kernel
theorem dX3_greatestAlike_21 : decode cX3_greatestAlike 21 = .ok (.if_icmp .ge 33, 3) := by decide +kernel
theorem dX3_greatestAlike_24 : decode cX3_greatestAlike 24 = .ok (.aload_n 0, 1) := by decide +kernel
theorem dX3_greatestAlike_25 : decode cX3_greatestAlike 25 = .ok (.getfield 16, 3) := by decide +kernel
theorem dX3_greatestAlike_28 : decode cX3_greatestAlike 28 = .ok (.iload 4, 2) := by decide +kernel
theorem dX3_greatestAlike_30 : decode cX3_greatestAlike 30 = .ok (.aaload, 1) := by decide +kernel
theorem dX3_greatestAlike_31 : decode cX3_greatestAlike 31 = .ok (.iload_n 2, 1) := by decide +kernel
theorem dX3_greatestAlike_32 : decode cX3_greatestAlike 32 = .ok (.iaload, 1) := by decide +kernel
theorem dX3_greatestAlike_33 : decode cX3_greatestAlike 33 = .ok (.aload_n 0, 1) := by decide +kernel
theorem dX3_greatestAlike_34 : decode cX3_greatestAlike 34 = .ok (.getfield 16, 3) := by decide +kernel
theorem dX3_greatestAlike_37 : decode cX3_greatestAlike 37 = .ok (.iload 6, 2) := by decide +kernel
theorem dX3_greatestAlike_39 : decode cX3_greatestAlike 39 = .ok (.aaload, 1) := by decide +kernel
theorem dX3_greatestAlike_40 : decode cX3_greatestAlike 40 = .ok (.iload_n 2, 1) := by decide +kernel
theorem dX3_greatestAlike_41 : decode cX3_greatestAlike 41 = .ok (.iaload, 1) := by decide +kernel
theorem dX3_greatestAlike_42 : decode cX3_greatestAlike 42 = .ok (.if_icmp .ne 6, 3) := by decide +kernel
theorem dX3_greatestAlike_45 : decode cX3_greatestAlike 45 = .ok (.iinc 5 1, 3) := by decide +kernel
theorem dX3_greatestAlike_48 : decode cX3_greatestAlike 48 = .ok (.iinc 6 1, 3) := by decide +kernel
theorem dX3_greatestAlike_51 : decode cX3_greatestAlike 51 = .ok (.goto (-33), 3) := by decide +kernel
theorem dX3_greatestAlike_54 : decode cX3_greatestAlike 54 = .ok (.iload_n 3, 1) := by decide +kernel
theorem dX3_greatestAlike_55 : decode cX3_greatestAlike 55 = .ok (.iload 5, 2) := by decide +kernel
theorem dX3_greatestAlike_57 : decode cX3_greatestAlike 57 = .ok (.invokestatic 71, 3) := by decide +kernel
theorem dX3_greatestAlike_60 : decode cX3_greatestAlike 60 = .ok (.istore_n 3, 1) := by decide +kernel
theorem dX3_greatestAlike_61 : decode cX3_greatestAlike 61 = .ok (.iinc 4 1, 3) := by decide +kernel
theorem dX3_greatestAlike_64 : decode cX3_greatestAlike 64 = .ok (.goto (-59), 3) := by decide +kernel
theorem dX3_greatestAlike_67 : decode cX3_greatestAlike 67 = .ok (.iload_n 3, 1) := by decide +kernel
theorem dX3_greatestAlike_68 : decode cX3_greatestAlike 68 = .ok (.ireturn, 1) := by decide +kernel
theorem dX4_init_0 : decode cX4_init 0 = .ok (.aload_n 0, 1) := by decide +kernel
theorem dX4_init_1 : decode cX4_init 1 = .ok (.invokespecial 3, 3) := by decide +kernel
theorem dX4_init_4 : decode cX4_init 4 = .ok (.aload_n 0, 1) := by decide +kernel
theorem dX4_init_5 : decode cX4_init 5 = .ok (.iconst (-1), 1) := by decide +kernel
theorem dX4_init_6 : decode cX4_init 6 = .ok (.putfield 9, 3) := by decide +kernel
theorem dX4_init_9 : decode cX4_init 9 = .ok (.aload_n 0, 1) := by decide +kernel
theorem dX4_init_10 : decode cX4_init 10 = .ok (.bipush 60, 2) := by decide +kernel
theorem dX4_init_12 : decode cX4_init 12 = .ok (.newarray .int, 2) := by decide +kernel
theorem dX4_init_14 : decode cX4_init 14 = .ok (.putfield 15, 3) := by decide +kernel
theorem dX4_init_17 : decode cX4_init 17 = .ok (.return_, 1) := by decide +kernel
theorem dX4_isLost_0 : decode cX4_isLost 0 = .ok (.aload_n 0, 1) := by decide +kernel
theorem dX4_isLost_1 : decode cX4_isLost 1 = .ok (.getfield 9, 3) := by decide +kernel
theorem dX4_isLost_4 : decode cX4_isLost 4 = .ok (.iconst (-1), 1) := by decide +kernel
theorem dX4_isLost_5 : decode cX4_isLost 5 = .ok (.if_icmp .ne 7, 3) := by decide +kernel
theorem dX4_isLost_8 : decode cX4_isLost 8 = .ok (.iconst 1, 1) := by decide +kernel
theorem dX4_isLost_9 : decode cX4_isLost 9 = .ok (.goto 4, 3) := by decide +kernel
theorem dX4_isLost_12 : decode cX4_isLost 12 = .ok (.iconst 0, 1) := by decide +kernel
theorem dX4_isLost_13 : decode cX4_isLost 13 = .ok (.ireturn, 1) := by decide +kernel
theorem dX4_renew_0 : decode cX4_renew 0 = .ok (.aload_n 0, 1) := by decide +kernel
theorem dX4_renew_1 : decode cX4_renew 1 = .ok (.iload_n 1, 1) := by decide +kernel
theorem dX4_renew_2 : decode cX4_renew 2 = .ok (.putfield 9, 3) := by decide +kernel
theorem dX4_renew_5 : decode cX4_renew 5 = .ok (.aload_n 0, 1) := by decide +kernel
theorem dX4_renew_6 : decode cX4_renew 6 = .ok (.iload_n 2, 1) := by decide +kernel
theorem dX4_renew_7 : decode cX4_renew 7 = .ok (.putfield 19, 3) := by decide +kernel
theorem dX4_renew_10 : decode cX4_renew 10 = .ok (.iconst 0, 1) := by decide +kernel
theorem dX4_renew_11 : decode cX4_renew 11 = .ok (.istore_n 3, 1) := by decide +kernel
theorem dX4_renew_12 : decode cX4_renew 12 = .ok (.iload_n 3, 1) := by decide +kernel
theorem dX4_renew_13 : decode cX4_renew 13 = .ok (.bipush 60, 2) := by decide +kernel
theorem dX4_renew_15 : decode cX4_renew 15 = .ok (.if_icmp .ge 16, 3) := by decide +kernel
theorem dX4_renew_18 : decode cX4_renew 18 = .ok (.aload_n 0, 1) := by decide +kernel
theorem dX4_renew_19 : decode cX4_renew 19 = .ok (.getfield 15, 3) := by decide +kernel
theorem dX4_renew_22 : decode cX4_renew 22 = .ok (.iload_n 3, 1) := by decide +kernel
theorem dX4_renew_23 : decode cX4_renew 23 = .ok (.iconst 0, 1) := by decide +kernel
theorem dX4_renew_24 : decode cX4_renew 24 = .ok (.iastore, 1) := by decide +kernel
theorem dX4_renew_25 : decode cX4_renew 25 = .ok (.iinc 3 1, 3) := by decide +kernel
theorem dX4_renew_28 : decode cX4_renew 28 = .ok (.goto (-16), 3) := by decide +kernel
theorem dX4_renew_31 : decode cX4_renew 31 = .ok (.return_, 1) := by decide +kernel
theorem dX4_beLost_0 : decode cX4_beLost 0 = .ok (.aload_n 0, 1) := by decide +kernel
theorem dX4_beLost_1 : decode cX4_beLost 1 = .ok (.getfield 19, 3) := by decide +kernel
theorem dX4_beLost_4 : decode cX4_beLost 4 = .ok (.istore_n 1, 1) := by decide +kernel
theorem dX4_beLost_5 : decode cX4_beLost 5 = .ok (.aload_n 0, 1) := by decide +kernel
theorem dX4_beLost_6 : decode cX4_beLost 6 = .ok (.iconst (-1), 1) := by decide +kernel
theorem dX4_beLost_7 : decode cX4_beLost 7 = .ok (.putfield 9, 3) := by decide +kernel
theorem dX4_beLost_10 : decode cX4_beLost 10 = .ok (.aload_n 0, 1) := by decide +kernel
theorem dX4_beLost_11 : decode cX4_beLost 11 = .ok (.iconst 0, 1) := by decide +kernel
theorem dX4_beLost_12 : decode cX4_beLost 12 = .ok (.putfield 19, 3) := by decide +kernel
theorem dX4_beLost_15 : decode cX4_beLost 15 = .ok (.iload_n 1, 1) := by decide +kernel
theorem dX4_beLost_16 : decode cX4_beLost 16 = .ok (.ireturn, 1) := by decide +kernel
theorem dX4_hindrance_0 : decode cX4_hindrance 0 = .ok (.aload_n 0, 1) := by decide +kernel
theorem dX4_hindrance_1 : decode cX4_hindrance 1 = .ok (.invokevirtual 22, 3) := by decide +kernel
theorem dX4_hindrance_4 : decode cX4_hindrance 4 = .ok (.ifCond .eq 5, 3) := by decide +kernel
theorem dX4_hindrance_7 : decode cX4_hindrance 7 = .ok (.iconst 1, 1) := by decide +kernel
theorem dX4_hindrance_8 : decode cX4_hindrance 8 = .ok (.ireturn, 1) := by decide +kernel
theorem dX4_hindrance_9 : decode cX4_hindrance 9 = .ok (.aload_n 0, 1) := by decide +kernel
theorem dX4_hindrance_10 : decode cX4_hindrance 10 = .ok (.getfield 9, 3) := by decide +kernel
theorem dX4_hindrance_13 : decode cX4_hindrance 13 = .ok (.iload_n 1, 1) := by decide +kernel
theorem dX4_hindrance_14 : decode cX4_hindrance 14 = .ok (.if_icmp .eq 5, 3) := by decide +kernel
theorem dX4_hindrance_17 : decode cX4_hindrance 17 = .ok (.iconst 3, 1) := by decide +kernel
theorem dX4_hindrance_18 : decode cX4_hindrance 18 = .ok (.ireturn, 1) := by decide +kernel
theorem dX4_hindrance_19 : decode cX4_hindrance 19 = .ok (.iload_n 2, 1) := by decide +kernel
theorem dX4_hindrance_20 : decode cX4_hindrance 20 = .ok (.iconst 0, 1) := by decide +kernel
theorem dX4_hindrance_21 : decode cX4_hindrance 21 = .ok (.aload_n 0, 1) := by decide +kernel
theorem dX4_hindrance_22 : decode cX4_hindrance 22 = .ok (.getfield 19, 3) := by decide +kernel
theorem dX4_hindrance_25 : decode cX4_hindrance 25 = .ok (.iconst 1, 1) := by decide +kernel
theorem dX4_hindrance_26 : decode cX4_hindrance 26 = .ok (.isub, 1) := by decide +kernel
theorem dX4_hindrance_27 : decode cX4_hindrance 27 = .ok (.invokestatic 26, 3) := by decide +kernel
theorem dX4_hindrance_30 : decode cX4_hindrance 30 = .ok (.ifCond .eq 7, 3) := by decide +kernel
theorem dX4_hindrance_33 : decode cX4_hindrance 33 = .ok (.iconst 0, 1) := by decide +kernel
theorem dX4_hindrance_34 : decode cX4_hindrance 34 = .ok (.goto 4, 3) := by decide +kernel
theorem dX4_hindrance_37 : decode cX4_hindrance 37 = .ok (.iconst 2, 1) := by decide +kernel
theorem dX4_hindrance_38 : decode cX4_hindrance 38 = .ok (.ireturn, 1) := by decide +kernel
theorem dX4_hasRun_0 : decode cX4_hasRun 0 = .ok (.iload_n 2, 1) := by decide +kernel
theorem dX4_hasRun_1 : decode cX4_hasRun 1 = .ok (.ifCond .lt 29, 3) := by decide +kernel
theorem dX4_hasRun_4 : decode cX4_hasRun 4 = .ok (.iload_n 1, 1) := by decide +kernel
theorem dX4_hasRun_5 : decode cX4_hasRun 5 = .ok (.iconst 0, 1) := by decide +kernel
theorem dX4_hasRun_6 : decode cX4_hasRun 6 = .ok (.aload_n 0, 1) := by decide +kernel
theorem dX4_hasRun_7 : decode cX4_hasRun 7 = .ok (.getfield 19, 3) := by decide +kernel
theorem dX4_hasRun_10 : decode cX4_hasRun 10 = .ok (.invokestatic 26, 3) := by decide +kernel
theorem dX4_hasRun_13 : decode cX4_hasRun 13 = .ok (.ifCond .eq 17, 3) := by decide +kernel
theorem dX4_hasRun_16 : decode cX4_hasRun 16 = .ok (.iload_n 2, 1) := by decide +kernel
theorem dX4_hasRun_17 : decode cX4_hasRun 17 = .ok (.aload_n 0, 1) := by decide +kernel
theorem dX4_hasRun_18 : decode cX4_hasRun 18 = .ok (.getfield 19, 3) := by decide +kernel
theorem dX4_hasRun_21 : decode cX4_hasRun 21 = .ok (.iload_n 1, 1) := by decide +kernel
theorem dX4_hasRun_22 : decode cX4_hasRun 22 = .ok (.isub, 1) := by decide +kernel
theorem dX4_hasRun_23 : decode cX4_hasRun 23 = .ok (.if_icmp .gt 7, 3) := by decide +kernel
theorem dX4_hasRun_26 : decode cX4_hasRun 26 = .ok (.iconst 1, 1) := by decide +kernel
theorem dX4_hasRun_27 : decode cX4_hasRun 27 = .ok (.goto 4, 3) := by decide +kernel
theorem dX4_hasRun_30 : decode cX4_hasRun 30 = .ok (.iconst 0, 1) := by decide +kernel
theorem dX4_hasRun_31 : decode cX4_hasRun 31 = .ok (.ireturn, 1) := by decide +kernel
theorem dX4_store_0 : decode cX4_store 0 = .ok (.iload_n 1, 1) := by decide +kernel
theorem dX4_store_1 : decode cX4_store 1 = .ok (.iconst 0, 1) := by decide +kernel
theorem dX4_store_2 : decode cX4_store 2 = .ok (.aload_n 0, 1) := by decide +kernel
theorem dX4_store_3 : decode cX4_store 3 = .ok (.getfield 19, 3) := by decide +kernel
theorem dX4_store_6 : decode cX4_store 6 = .ok (.iconst 1, 1) := by decide +kernel
theorem dX4_store_7 : decode cX4_store 7 = .ok (.isub, 1) := by decide +kernel
theorem dX4_store_8 : decode cX4_store 8 = .ok (.invokestatic 26, 3) := by decide +kernel
theorem dX4_store_11 : decode cX4_store 11 = .ok (.ifCond .eq 35, 3) := by decide +kernel
theorem dX4_store_14 : decode cX4_store 14 = .ok (.aload_n 0, 1) := by decide +kernel
theorem dX4_store_15 : decode cX4_store 15 = .ok (.getfield 15, 3) := by decide +kernel
theorem dX4_store_18 : decode cX4_store 18 = .ok (.iload_n 1, 1) := by decide +kernel
theorem dX4_store_19 : decode cX4_store 19 = .ok (.aload_n 0, 1) := by decide +kernel
theorem dX4_store_20 : decode cX4_store 20 = .ok (.getfield 9, 3) := by decide +kernel
theorem dX4_store_23 : decode cX4_store 23 = .ok (.ifCond .ne 8, 3) := by decide +kernel
theorem dX4_store_26 : decode cX4_store 26 = .ok (.iload_n 2, 1) := by decide +kernel
theorem dX4_store_27 : decode cX4_store 27 = .ok (.i2b, 1) := by decide +kernel
theorem dX4_store_28 : decode cX4_store 28 = .ok (.goto 17, 3) := by decide +kernel
theorem dX4_store_31 : decode cX4_store 31 = .ok (.aload_n 0, 1) := by decide +kernel
theorem dX4_store_32 : decode cX4_store 32 = .ok (.getfield 9, 3) := by decide +kernel
theorem dX4_store_35 : decode cX4_store 35 = .ok (.iconst 1, 1) := by decide +kernel
theorem dX4_store_36 : decode cX4_store 36 = .ok (.if_icmp .ne 8, 3) := by decide +kernel
theorem dX4_store_39 : decode cX4_store 39 = .ok (.iload_n 2, 1) := by decide +kernel
theorem dX4_store_40 : decode cX4_store 40 = .ok (.i2s, 1) := by decide +kernel
theorem dX4_store_41 : decode cX4_store 41 = .ok (.goto 4, 3) := by decide +kernel
theorem dX4_store_44 : decode cX4_store 44 = .ok (.iload_n 2, 1) := by decide +kernel
theorem dX4_store_45 : decode cX4_store 45 = .ok (.iastore, 1) := by decide +kernel
theorem dX4_store_46 : decode cX4_store 46 = .ok (.return_, 1) := by decide +kernel
theorem dX5_init_0 : decode cX5_init 0 = .ok (.aload_n 0, 1) := by decide +kernel
theorem dX5_init_1 : decode cX5_init 1 = .ok (.invokespecial 3, 3) := by decide +kernel
theorem dX5_init_4 : decode cX5_init 4 = .ok (.aload_n 0, 1) := by decide +kernel
theorem dX5_init_5 : decode cX5_init 5 = .ok (.aload_n 1, 1) := by decide +kernel
theorem dX5_init_6 : decode cX5_init 6 = .ok (.putfield 9, 3) := by decide +kernel
theorem dX5_init_9 : decode cX5_init 9 = .ok (.aload_n 0, 1) := by decide +kernel
theorem dX5_init_10 : decode cX5_init 10 = .ok (.iload_n 2, 1) := by decide +kernel
theorem dX5_init_11 : decode cX5_init 11 = .ok (.putfield 15, 3) := by decide +kernel
theorem dX5_init_14 : decode cX5_init 14 = .ok (.aload_n 0, 1) := by decide +kernel
theorem dX5_init_15 : decode cX5_init 15 = .ok (.iload_n 2, 1) := by decide +kernel
theorem dX5_init_16 : decode cX5_init 16 = .ok (.aload_n 1, 1) := by decide +kernel
theorem dX5_init_17 : decode cX5_init 17 = .ok (.arraylength, 1) := by decide +kernel
theorem dX5_init_18 : decode cX5_init 18 = .ok (.iconst 1, 1) := by decide +kernel
theorem dX5_init_19 : decode cX5_init 19 = .ok (.iadd, 1) := by decide +kernel
theorem dX5_init_20 : decode cX5_init 20 = .ok (.imul, 1) := by decide +kernel
theorem dX5_init_21 : decode cX5_init 21 = .ok (.iconst 1, 1) := by decide +kernel
theorem dX5_init_22 : decode cX5_init 22 = .ok (.isub, 1) := by decide +kernel
theorem dX5_init_23 : decode cX5_init 23 = .ok (.newarray .int, 2) := by decide +kernel
theorem dX5_init_25 : decode cX5_init 25 = .ok (.putfield 19, 3) := by decide +kernel
theorem dX5_init_28 : decode cX5_init 28 = .ok (.aload_n 0, 1) := by decide +kernel
theorem dX5_init_29 : decode cX5_init 29 = .ok (.iconst 0, 1) := by decide +kernel
theorem dX5_init_30 : decode cX5_init 30 = .ok (.putfield 22, 3) := by decide +kernel
theorem dX5_init_33 : decode cX5_init 33 = .ok (.return_, 1) := by decide +kernel
theorem dX5_hasRoom_0 : decode cX5_hasRoom 0 = .ok (.aload_n 0, 1) := by decide +kernel
theorem dX5_hasRoom_1 : decode cX5_hasRoom 1 = .ok (.getfield 22, 3) := by decide +kernel
theorem dX5_hasRoom_4 : decode cX5_hasRoom 4 = .ok (.aload_n 0, 1) := by decide +kernel
theorem dX5_hasRoom_5 : decode cX5_hasRoom 5 = .ok (.getfield 19, 3) := by decide +kernel
theorem dX5_hasRoom_8 : decode cX5_hasRoom 8 = .ok (.arraylength, 1) := by decide +kernel
theorem dX5_hasRoom_9 : decode cX5_hasRoom 9 = .ok (.if_icmp .ge 7, 3) := by decide +kernel
theorem dX5_hasRoom_12 : decode cX5_hasRoom 12 = .ok (.iconst 1, 1) := by decide +kernel
theorem dX5_hasRoom_13 : decode cX5_hasRoom 13 = .ok (.goto 4, 3) := by decide +kernel
theorem dX5_hasRoom_16 : decode cX5_hasRoom 16 = .ok (.iconst 0, 1) := by decide +kernel
theorem dX5_hasRoom_17 : decode cX5_hasRoom 17 = .ok (.ireturn, 1) := by decide +kernel
theorem dX5_append_0 : decode cX5_append 0 = .ok (.aload_n 0, 1) := by decide +kernel
theorem dX5_append_1 : decode cX5_append 1 = .ok (.invokevirtual 25, 3) := by decide +kernel
theorem dX5_append_4 : decode cX5_append 4 = .ok (.ifCond .eq 23, 3) := by decide +kernel
theorem dX5_append_7 : decode cX5_append 7 = .ok (.aload_n 0, 1) := by decide +kernel
theorem dX5_append_8 : decode cX5_append 8 = .ok (.getfield 19, 3) := by decide +kernel
theorem dX5_append_11 : decode cX5_append 11 = .ok (.aload_n 0, 1) := by decide +kernel
theorem dX5_append_12 : decode cX5_append 12 = .ok (.getfield 22, 3) := by decide +kernel
theorem dX5_append_15 : decode cX5_append 15 = .ok (.iload_n 1, 1) := by decide +kernel
theorem dX5_append_16 : decode cX5_append 16 = .ok (.iastore, 1) := by decide +kernel
theorem dX5_append_17 : decode cX5_append 17 = .ok (.aload_n 0, 1) := by decide +kernel
theorem dX5_append_18 : decode cX5_append 18 = .ok (.dup, 1) := by decide +kernel
theorem dX5_append_19 : decode cX5_append 19 = .ok (.getfield 22, 3) := by decide +kernel
theorem dX5_append_22 : decode cX5_append 22 = .ok (.iconst 1, 1) := by decide +kernel
theorem dX5_append_23 : decode cX5_append 23 = .ok (.iadd, 1) := by decide +kernel
theorem dX5_append_24 : decode cX5_append 24 = .ok (.putfield 22, 3) := by decide +kernel
theorem dX5_append_27 : decode cX5_append 27 = .ok (.aload_n 0, 1) := by decide +kernel
theorem dX5_append_28 : decode cX5_append 28 = .ok (.getfield 22, 3) := by decide +kernel
theorem dX5_append_31 : decode cX5_append 31 = .ok (.ireturn, 1) := by decide +kernel
theorem dX5_clear_0 : decode cX5_clear 0 = .ok (.aload_n 0, 1) := by decide +kernel
theorem dX5_clear_1 : decode cX5_clear 1 = .ok (.getfield 22, 3) := by decide +kernel
theorem dX5_clear_4 : decode cX5_clear 4 = .ok (.istore_n 1, 1) := by decide +kernel
theorem dX5_clear_5 : decode cX5_clear 5 = .ok (.aload_n 0, 1) := by decide +kernel
theorem dX5_clear_6 : decode cX5_clear 6 = .ok (.iconst 0, 1) := by decide +kernel
theorem dX5_clear_7 : decode cX5_clear 7 = .ok (.putfield 22, 3) := by decide +kernel
theorem dX5_clear_10 : decode cX5_clear 10 = .ok (.iload_n 1, 1) := by decide +kernel
theorem dX5_clear_11 : decode cX5_clear 11 = .ok (.ireturn, 1) := by decide +kernel
theorem dX5_dropLast_0 : decode cX5_dropLast 0 = .ok (.aload_n 0, 1) := by decide +kernel
theorem dX5_dropLast_1 : decode cX5_dropLast 1 = .ok (.getfield 22, 3) := by decide +kernel
theorem dX5_dropLast_4 : decode cX5_dropLast 4 = .ok (.ifCond .le 13, 3) := by decide +kernel
theorem dX5_dropLast_7 : decode cX5_dropLast 7 = .ok (.aload_n 0, 1) := by decide +kernel
theorem dX5_dropLast_8 : decode cX5_dropLast 8 = .ok (.dup, 1) := by decide +kernel
theorem dX5_dropLast_9 : decode cX5_dropLast 9 = .ok (.getfield 22, 3) := by decide +kernel
theorem dX5_dropLast_12 : decode cX5_dropLast 12 = .ok (.iconst 1, 1) := by decide +kernel
theorem dX5_dropLast_13 : decode cX5_dropLast 13 = .ok (.isub, 1) := by decide +kernel
theorem dX5_dropLast_14 : decode cX5_dropLast 14 = .ok (.putfield 22, 3) := by decide +kernel
theorem dX5_dropLast_17 : decode cX5_dropLast 17 = .ok (.aload_n 0, 1) := by decide +kernel
theorem dX5_dropLast_18 : decode cX5_dropLast 18 = .ok (.getfield 22, 3) := by decide +kernel
theorem dX5_dropLast_21 : decode cX5_dropLast 21 = .ok (.ireturn, 1) := by decide +kernel
theorem dX5_firstFault_0 : decode cX5_firstFault 0 = .ok (.aload_n 0, 1) := by decide +kernel
theorem dX5_firstFault_1 : decode cX5_firstFault 1 = .ok (.getfield 9, 3) := by decide +kernel
theorem dX5_firstFault_4 : decode cX5_firstFault 4 = .ok (.arraylength, 1) := by decide +kernel
theorem dX5_firstFault_5 : decode cX5_firstFault 5 = .ok (.iconst 1, 1) := by decide +kernel
theorem dX5_firstFault_6 : decode cX5_firstFault 6 = .ok (.iadd, 1) := by decide +kernel
theorem dX5_firstFault_7 : decode cX5_firstFault 7 = .ok (.istore_n 1, 1) := by decide +kernel
theorem dX5_firstFault_8 : decode cX5_firstFault 8 = .ok (.iconst 0, 1) := by decide +kernel
theorem dX5_firstFault_9 : decode cX5_firstFault 9 = .ok (.istore_n 2, 1) := by decide +kernel
theorem dX5_firstFault_10 : decode cX5_firstFault 10 = .ok (.iload_n 2, 1) := by decide +kernel
theorem dX5_firstFault_11 : decode cX5_firstFault 11 = .ok (.aload_n 0, 1) := by decide +kernel
theorem dX5_firstFault_12 : decode cX5_firstFault 12 = .ok (.getfield 22, 3) := by decide +kernel
theorem dX5_firstFault_15 : decode cX5_firstFault 15 = .ok (.if_icmp .ge 84, 3) := by decide +kernel
theorem dX5_firstFault_18 : decode cX5_firstFault 18 = .ok (.iload_n 2, 1) := by decide +kernel
theorem dX5_firstFault_19 : decode cX5_firstFault 19 = .ok (.iload_n 1, 1) := by decide +kernel
theorem dX5_firstFault_20 : decode cX5_firstFault 20 = .ok (.irem, 1) := by decide +kernel
theorem dX5_firstFault_21 : decode cX5_firstFault 21 = .ok (.istore_n 3, 1) := by decide +kernel
theorem dX5_firstFault_22 : decode cX5_firstFault 22 = .ok (.iload_n 3, 1) := by decide +kernel
theorem dX5_firstFault_23 : decode cX5_firstFault 23 = .ok (.aload_n 0, 1) := by decide +kernel
theorem dX5_firstFault_24 : decode cX5_firstFault 24 = .ok (.getfield 9, 3) := by decide +kernel
theorem dX5_firstFault_27 : decode cX5_firstFault 27 = .ok (.arraylength, 1) := by decide +kernel
theorem dX5_firstFault_28 : decode cX5_firstFault 28 = .ok (.if_icmp .ne 22, 3) := by decide +kernel
theorem dX5_firstFault_31 : decode cX5_firstFault 31 = .ok (.aload_n 0, 1) := by decide +kernel
theorem dX5_firstFault_32 : decode cX5_firstFault 32 = .ok (.getfield 19, 3) := by decide +kernel
theorem dX5_firstFault_35 : decode cX5_firstFault 35 = .ok (.iload_n 2, 1) := by decide +kernel
theorem dX5_firstFault_36 : decode cX5_firstFault 36 = .ok (.iaload, 1) := by decide +kernel
theorem dX5_firstFault_37 : decode cX5_firstFault 37 = .ok (.bipush 59, 2) := by decide +kernel
theorem dX5_firstFault_39 : decode cX5_firstFault 39 = .ok (.if_icmp .ne 7, 3) := by decide +kernel
theorem dX5_firstFault_42 : decode cX5_firstFault 42 = .ok (.iconst 1, 1) := by decide +kernel
theorem dX5_firstFault_43 : decode cX5_firstFault 43 = .ok (.goto 41, 3) := by decide +kernel
theorem dX5_firstFault_46 : decode cX5_firstFault 46 = .ok (.iconst 0, 1) := by decide +kernel
theorem dX5_firstFault_47 : decode cX5_firstFault 47 = .ok (.goto 37, 3) := by decide +kernel
theorem dX5_firstFault_50 : decode cX5_firstFault 50 = .ok (.iload_n 2, 1) := by decide +kernel
theorem dX5_firstFault_51 : decode cX5_firstFault 51 = .ok (.iload_n 1, 1) := by decide +kernel
theorem dX5_firstFault_52 : decode cX5_firstFault 52 = .ok (.idiv, 1) := by decide +kernel
theorem dX5_firstFault_53 : decode cX5_firstFault 53 = .ok (.aload_n 0, 1) := by decide +kernel
theorem dX5_firstFault_54 : decode cX5_firstFault 54 = .ok (.getfield 15, 3) := by decide +kernel
theorem dX5_firstFault_57 : decode cX5_firstFault 57 = .ok (.if_icmp .ge 26, 3) := by decide +kernel
theorem dX5_firstFault_60 : decode cX5_firstFault 60 = .ok (.aload_n 0, 1) := by decide +kernel
theorem dX5_firstFault_61 : decode cX5_firstFault 61 = .ok (.getfield 9, 3) := by decide +kernel
theorem dX5_firstFault_64 : decode cX5_firstFault 64 = .ok (.iload_n 3, 1) := by decide +kernel
theorem dX5_firstFault_65 : decode cX5_firstFault 65 = .ok (.iaload, 1) := by decide +kernel
theorem dX5_firstFault_66 : decode cX5_firstFault 66 = .ok (.aload_n 0, 1) := by decide +kernel
theorem dX5_firstFault_67 : decode cX5_firstFault 67 = .ok (.getfield 19, 3) := by decide +kernel
theorem dX5_firstFault_70 : decode cX5_firstFault 70 = .ok (.iload_n 2, 1) := by decide +kernel
theorem dX5_firstFault_71 : decode cX5_firstFault 71 = .ok (.iaload, 1) := by decide +kernel
theorem dX5_firstFault_72 : decode cX5_firstFault 72 = .ok (.invokestatic 29, 3) := by decide +kernel
theorem dX5_firstFault_75 : decode cX5_firstFault 75 = .ok (.iconst (-1), 1) := by decide +kernel
theorem dX5_firstFault_76 : decode cX5_firstFault 76 = .ok (.if_icmp .eq 7, 3) := by decide +kernel
theorem dX5_firstFault_79 : decode cX5_firstFault 79 = .ok (.iconst 1, 1) := by decide +kernel
theorem dX5_firstFault_80 : decode cX5_firstFault 80 = .ok (.goto 4, 3) := by decide +kernel
theorem dX5_firstFault_83 : decode cX5_firstFault 83 = .ok (.iconst 0, 1) := by decide +kernel
theorem dX5_firstFault_84 : decode cX5_firstFault 84 = .ok (.istore 4, 2) := by decide +kernel
theorem dX5_firstFault_86 : decode cX5_firstFault 86 = .ok (.iload 4, 2) := by decide +kernel
theorem dX5_firstFault_88 : decode cX5_firstFault 88 = .ok (.ifCond .ne 5, 3) := by decide +kernel
theorem dX5_firstFault_91 : decode cX5_firstFault 91 = .ok (.iload_n 2, 1) := by decide +kernel
theorem dX5_firstFault_92 : decode cX5_firstFault 92 = .ok (.ireturn, 1) := by decide +kernel
theorem dX5_firstFault_93 : decode cX5_firstFault 93 = .ok (.iinc 2 1, 3) := by decide +kernel
theorem dX5_firstFault_96 : decode cX5_firstFault 96 = .ok (.goto (-86), 3) := by decide +kernel
theorem dX5_firstFault_99 : decode cX5_firstFault 99 = .ok (.aload_n 0, 1) := by decide +kernel
theorem dX5_firstFault_100 : decode cX5_firstFault 100 = .ok (.getfield 22, 3) := by decide +kernel
theorem dX5_firstFault_103 : decode cX5_firstFault 103 = .ok (.ifCond .eq 17, 3) := by decide +kernel
theorem dX5_firstFault_106 : decode cX5_firstFault 106 = .ok (.aload_n 0, 1) := by decide +kernel
theorem dX5_firstFault_107 : decode cX5_firstFault 107 = .ok (.getfield 22, 3) := by decide +kernel
theorem dX5_firstFault_110 : decode cX5_firstFault 110 = .ok (.iload_n 1, 1) := by decide +kernel
theorem dX5_firstFault_111 : decode cX5_firstFault 111 = .ok (.irem, 1) := by decide +kernel
theorem dX5_firstFault_112 : decode cX5_firstFault 112 = .ok (.aload_n 0, 1) := by decide +kernel
theorem dX5_firstFault_113 : decode cX5_firstFault 113 = .ok (.getfield 9, 3) := by decide +kernel
theorem dX5_firstFault_116 : decode cX5_firstFault 116 = .ok (.arraylength, 1) := by decide +kernel
theorem dX5_firstFault_117 : decode cX5_firstFault 117 = .ok (.if_icmp .ne 7, 3) := by decide +kernel
theorem dX5_firstFault_120 : decode cX5_firstFault 120 = .ok (.iconst (-1), 1) := by decide +kernel
theorem dX5_firstFault_121 : decode cX5_firstFault 121 = .ok (.goto 7, 3) := by decide +kernel
theorem dX5_firstFault_124 : decode cX5_firstFault 124 = .ok (.aload_n 0, 1) := by decide +kernel
theorem dX5_firstFault_125 : decode cX5_firstFault 125 = .ok (.getfield 22, 3) := by decide +kernel
theorem dX5_firstFault_128 : decode cX5_firstFault 128 = .ok (.ireturn, 1) := by decide +kernel
theorem dX5_itemCount_0 : decode cX5_itemCount 0 = .ok (.aload_n 0, 1) := by decide +kernel
theorem dX5_itemCount_1 : decode cX5_itemCount 1 = .ok (.invokevirtual 33, 3) := by decide +kernel
theorem dX5_itemCount_4 : decode cX5_itemCount 4 = .ok (.iconst (-1), 1) := by decide +kernel
theorem dX5_itemCount_5 : decode cX5_itemCount 5 = .ok (.if_icmp .ne 20, 3) := by decide +kernel
theorem dX5_itemCount_8 : decode cX5_itemCount 8 = .ok (.aload_n 0, 1) := by decide +kernel
theorem dX5_itemCount_9 : decode cX5_itemCount 9 = .ok (.getfield 22, 3) := by decide +kernel
theorem dX5_itemCount_12 : decode cX5_itemCount 12 = .ok (.iconst 1, 1) := by decide +kernel
theorem dX5_itemCount_13 : decode cX5_itemCount 13 = .ok (.iadd, 1) := by decide +kernel
theorem dX5_itemCount_14 : decode cX5_itemCount 14 = .ok (.aload_n 0, 1) := by decide +kernel
theorem dX5_itemCount_15 : decode cX5_itemCount 15 = .ok (.getfield 9, 3) := by decide +kernel
theorem dX5_itemCount_18 : decode cX5_itemCount 18 = .ok (.arraylength, 1) := by decide +kernel
theorem dX5_itemCount_19 : decode cX5_itemCount 19 = .ok (.iconst 1, 1) := by decide +kernel
theorem dX5_itemCount_20 : decode cX5_itemCount 20 = .ok (.iadd, 1) := by decide +kernel
theorem dX5_itemCount_21 : decode cX5_itemCount 21 = .ok (.idiv, 1) := by decide +kernel
theorem dX5_itemCount_22 : decode cX5_itemCount 22 = .ok (.goto 4, 3) := by decide +kernel
theorem dX5_itemCount_25 : decode cX5_itemCount 25 = .ok (.iconst 0, 1) := by decide +kernel
theorem dX5_itemCount_26 : decode cX5_itemCount 26 = .ok (.ireturn, 1) := by decide +kernel
theorem dX5_value_0 : decode cX5_value 0 = .ok (.iload_n 1, 1) := by decide +kernel
theorem dX5_value_1 : decode cX5_value 1 = .ok (.aload_n 0, 1) := by decide +kernel
theorem dX5_value_2 : decode cX5_value 2 = .ok (.getfield 9, 3) := by decide +kernel
theorem dX5_value_5 : decode cX5_value 5 = .ok (.arraylength, 1) := by decide +kernel
theorem dX5_value_6 : decode cX5_value 6 = .ok (.iconst 1, 1) := by decide +kernel
theorem dX5_value_7 : decode cX5_value 7 = .ok (.iadd, 1) := by decide +kernel
theorem dX5_value_8 : decode cX5_value 8 = .ok (.imul, 1) := by decide +kernel
theorem dX5_value_9 : decode cX5_value 9 = .ok (.iload_n 2, 1) := by decide +kernel
theorem dX5_value_10 : decode cX5_value 10 = .ok (.iadd, 1) := by decide +kernel
theorem dX5_value_11 : decode cX5_value 11 = .ok (.istore_n 3, 1) := by decide +kernel
theorem dX5_value_12 : decode cX5_value 12 = .ok (.iload_n 3, 1) := by decide +kernel
theorem dX5_value_13 : decode cX5_value 13 = .ok (.ifCond .lt 44, 3) := by decide +kernel
theorem dX5_value_16 : decode cX5_value 16 = .ok (.iload_n 3, 1) := by decide +kernel
theorem dX5_value_17 : decode cX5_value 17 = .ok (.aload_n 0, 1) := by decide +kernel
theorem dX5_value_18 : decode cX5_value 18 = .ok (.getfield 22, 3) := by decide +kernel
theorem dX5_value_21 : decode cX5_value 21 = .ok (.if_icmp .ge 36, 3) := by decide +kernel
theorem dX5_value_24 : decode cX5_value 24 = .ok (.iload_n 2, 1) := by decide +kernel
theorem dX5_value_25 : decode cX5_value 25 = .ok (.iconst 0, 1) := by decide +kernel
theorem dX5_value_26 : decode cX5_value 26 = .ok (.aload_n 0, 1) := by decide +kernel
theorem dX5_value_27 : decode cX5_value 27 = .ok (.getfield 9, 3) := by decide +kernel
theorem dX5_value_30 : decode cX5_value 30 = .ok (.arraylength, 1) := by decide +kernel
theorem dX5_value_31 : decode cX5_value 31 = .ok (.iconst 1, 1) := by decide +kernel
theorem dX5_value_32 : decode cX5_value 32 = .ok (.isub, 1) := by decide +kernel
theorem dX5_value_33 : decode cX5_value 33 = .ok (.invokestatic 37, 3) := by decide +kernel
theorem dX5_value_36 : decode cX5_value 36 = .ok (.ifCond .eq 21, 3) := by decide +kernel
theorem dX5_value_39 : decode cX5_value 39 = .ok (.aload_n 0, 1) := by decide +kernel
theorem dX5_value_40 : decode cX5_value 40 = .ok (.getfield 9, 3) := by decide +kernel
theorem dX5_value_43 : decode cX5_value 43 = .ok (.iload_n 2, 1) := by decide +kernel
theorem dX5_value_44 : decode cX5_value 44 = .ok (.iaload, 1) := by decide +kernel
theorem dX5_value_45 : decode cX5_value 45 = .ok (.aload_n 0, 1) := by decide +kernel
theorem dX5_value_46 : decode cX5_value 46 = .ok (.getfield 19, 3) := by decide +kernel
theorem dX5_value_49 : decode cX5_value 49 = .ok (.iload_n 3, 1) := by decide +kernel
theorem dX5_value_50 : decode cX5_value 50 = .ok (.iaload, 1) := by decide +kernel
theorem dX5_value_51 : decode cX5_value 51 = .ok (.invokestatic 29, 3) := by decide +kernel
theorem dX5_value_54 : decode cX5_value 54 = .ok (.goto 4, 3) := by decide +kernel
theorem dX5_value_57 : decode cX5_value 57 = .ok (.iconst (-1), 1) := by decide +kernel
theorem dX5_value_58 : decode cX5_value 58 = .ok (.ireturn, 1) := by decide +kernel
theorem dX5_meaning_0 : decode cX5_meaning 0 = .ok (.iload_n 0, 1) := by decide +kernel
theorem dX5_meaning_1 : decode cX5_meaning 1 = .ok (.tableswitch 137 0 3 #[31, 73, 95, 116], 31) := by decide +kernel
theorem dX5_meaning_32 : decode cX5_meaning 32 = .ok (.iload_n 1, 1) := by decide +kernel
theorem dX5_meaning_33 : decode cX5_meaning 33 = .ok (.bipush 114, 2) := by decide +kernel
theorem dX5_meaning_35 : decode cX5_meaning 35 = .ok (.if_icmp .ne 7, 3) := by decide +kernel
theorem dX5_meaning_38 : decode cX5_meaning 38 = .ok (.iconst 0, 1) := by decide +kernel
theorem dX5_meaning_39 : decode cX5_meaning 39 = .ok (.goto 34, 3) := by decide +kernel
theorem dX5_meaning_42 : decode cX5_meaning 42 = .ok (.iload_n 1, 1) := by decide +kernel
theorem dX5_meaning_43 : decode cX5_meaning 43 = .ok (.bipush 102, 2) := by decide +kernel
theorem dX5_meaning_45 : decode cX5_meaning 45 = .ok (.if_icmp .ne 7, 3) := by decide +kernel
theorem dX5_meaning_48 : decode cX5_meaning 48 = .ok (.iconst 1, 1) := by decide +kernel
theorem dX5_meaning_49 : decode cX5_meaning 49 = .ok (.goto 24, 3) := by decide +kernel
theorem dX5_meaning_52 : decode cX5_meaning 52 = .ok (.iload_n 1, 1) := by decide +kernel
theorem dX5_meaning_53 : decode cX5_meaning 53 = .ok (.bipush 103, 2) := by decide +kernel
theorem dX5_meaning_55 : decode cX5_meaning 55 = .ok (.if_icmp .ne 7, 3) := by decide +kernel
theorem dX5_meaning_58 : decode cX5_meaning 58 = .ok (.iconst 2, 1) := by decide +kernel
theorem dX5_meaning_59 : decode cX5_meaning 59 = .ok (.goto 14, 3) := by decide +kernel
theorem dX5_meaning_62 : decode cX5_meaning 62 = .ok (.iload_n 1, 1) := by decide +kernel
theorem dX5_meaning_63 : decode cX5_meaning 63 = .ok (.bipush 115, 2) := by decide +kernel
theorem dX5_meaning_65 : decode cX5_meaning 65 = .ok (.if_icmp .ne 7, 3) := by decide +kernel
theorem dX5_meaning_68 : decode cX5_meaning 68 = .ok (.iconst 3, 1) := by decide +kernel
theorem dX5_meaning_69 : decode cX5_meaning 69 = .ok (.goto 4, 3) := by decide +kernel
theorem dX5_meaning_72 : decode cX5_meaning 72 = .ok (.iconst (-1), 1) := by decide +kernel
theorem dX5_meaning_73 : decode cX5_meaning 73 = .ok (.ireturn, 1) := by decide +kernel
theorem dX5_meaning_74 : decode cX5_meaning 74 = .ok (.iload_n 1, 1) := by decide +kernel
theorem dX5_meaning_75 : decode cX5_meaning 75 = .ok (.bipush 98, 2) := by decide +kernel
theorem dX5_meaning_77 : decode cX5_meaning 77 = .ok (.if_icmp .ne 7, 3) := by decide +kernel
theorem dX5_meaning_80 : decode cX5_meaning 80 = .ok (.iconst 0, 1) := by decide +kernel
theorem dX5_meaning_81 : decode cX5_meaning 81 = .ok (.goto 14, 3) := by decide +kernel
theorem dX5_meaning_84 : decode cX5_meaning 84 = .ok (.iload_n 1, 1) := by decide +kernel
theorem dX5_meaning_85 : decode cX5_meaning 85 = .ok (.bipush 106, 2) := by decide +kernel
theorem dX5_meaning_87 : decode cX5_meaning 87 = .ok (.if_icmp .ne 7, 3) := by decide +kernel
theorem dX5_meaning_90 : decode cX5_meaning 90 = .ok (.iconst 1, 1) := by decide +kernel
theorem dX5_meaning_91 : decode cX5_meaning 91 = .ok (.goto 4, 3) := by decide +kernel
theorem dX5_meaning_94 : decode cX5_meaning 94 = .ok (.iconst (-1), 1) := by decide +kernel
theorem dX5_meaning_95 : decode cX5_meaning 95 = .ok (.ireturn, 1) := by decide +kernel
theorem dX5_meaning_96 : decode cX5_meaning 96 = .ok (.iload_n 1, 1) := by decide +kernel
theorem dX5_meaning_97 : decode cX5_meaning 97 = .ok (.bipush 49, 2) := by decide +kernel
theorem dX5_meaning_99 : decode cX5_meaning 99 = .ok (.if_icmp .lt 16, 3) := by decide +kernel
theorem dX5_meaning_102 : decode cX5_meaning 102 = .ok (.iload_n 1, 1) := by decide +kernel
theorem dX5_meaning_103 : decode cX5_meaning 103 = .ok (.bipush 57, 2) := by decide +kernel
theorem dX5_meaning_105 : decode cX5_meaning 105 = .ok (.if_icmp .gt 10, 3) := by decide +kernel
theorem dX5_meaning_108 : decode cX5_meaning 108 = .ok (.iload_n 1, 1) := by decide +kernel
theorem dX5_meaning_109 : decode cX5_meaning 109 = .ok (.bipush 48, 2) := by decide +kernel
theorem dX5_meaning_111 : decode cX5_meaning 111 = .ok (.isub, 1) := by decide +kernel
theorem dX5_meaning_112 : decode cX5_meaning 112 = .ok (.goto 4, 3) := by decide +kernel
theorem dX5_meaning_115 : decode cX5_meaning 115 = .ok (.iconst (-1), 1) := by decide +kernel
theorem dX5_meaning_116 : decode cX5_meaning 116 = .ok (.ireturn, 1) := by decide +kernel
theorem dX5_meaning_117 : decode cX5_meaning 117 = .ok (.iload_n 1, 1) := by decide +kernel
theorem dX5_meaning_118 : decode cX5_meaning 118 = .ok (.bipush 97, 2) := by decide +kernel
theorem dX5_meaning_120 : decode cX5_meaning 120 = .ok (.if_icmp .lt 16, 3) := by decide +kernel
theorem dX5_meaning_123 : decode cX5_meaning 123 = .ok (.iload_n 1, 1) := by decide +kernel
theorem dX5_meaning_124 : decode cX5_meaning 124 = .ok (.bipush 120, 2) := by decide +kernel
theorem dX5_meaning_126 : decode cX5_meaning 126 = .ok (.if_icmp .gt 10, 3) := by decide +kernel
theorem dX5_meaning_129 : decode cX5_meaning 129 = .ok (.iload_n 1, 1) := by decide +kernel
theorem dX5_meaning_130 : decode cX5_meaning 130 = .ok (.bipush 97, 2) := by decide +kernel
theorem dX5_meaning_132 : decode cX5_meaning 132 = .ok (.isub, 1) := by decide +kernel
theorem dX5_meaning_133 : decode cX5_meaning 133 = .ok (.goto 4, 3) := by decide +kernel
theorem dX5_meaning_136 : decode cX5_meaning 136 = .ok (.iconst (-1), 1) := by decide +kernel
theorem dX5_meaning_137 : decode cX5_meaning 137 = .ok (.ireturn, 1) := by decide +kernel
theorem dX5_meaning_138 : decode cX5_meaning 138 = .ok (.iconst (-1), 1) := by decide +kernel
theorem dX5_meaning_139 : decode cX5_meaning 139 = .ok (.ireturn, 1) := by decide +kernel
theorem dX6_init_0 : decode cX6_init 0 = .ok (.aload_n 0, 1) := by decide +kernel
theorem dX6_init_1 : decode cX6_init 1 = .ok (.invokespecial 1, 3) := by decide +kernel
theorem dX6_init_4 : decode cX6_init 4 = .ok (.aload_n 0, 1) := by decide +kernel
theorem dX6_init_5 : decode cX6_init 5 = .ok (.iconst 2, 1) := by decide +kernel
theorem dX6_init_6 : decode cX6_init 6 = .ok (.anewarray 7, 3) := by decide +kernel
theorem dX6_init_9 : decode cX6_init 9 = .ok (.putfield 9, 3) := by decide +kernel
theorem dX6_init_12 : decode cX6_init 12 = .ok (.aload_n 0, 1) := by decide +kernel
theorem dX6_init_13 : decode cX6_init 13 = .ok (.getfield 9, 3) := by decide +kernel
theorem dX6_init_16 : decode cX6_init 16 = .ok (.iconst 0, 1) := by decide +kernel
theorem dX6_init_17 : decode cX6_init 17 = .ok (.new 7, 3) := by decide +kernel
theorem dX6_init_20 : decode cX6_init 20 = .ok (.dup, 1) := by decide +kernel
theorem dX6_init_21 : decode cX6_init 21 = .ok (.getstatic 15, 3) := by decide +kernel
theorem dX6_init_24 : decode cX6_init 24 = .ok (.bipush 8, 2) := by decide +kernel
theorem dX6_init_26 : decode cX6_init 26 = .ok (.invokespecial 19, 3) := by decide +kernel
theorem dX6_init_29 : decode cX6_init 29 = .ok (.aastore, 1) := by decide +kernel
theorem dX6_init_30 : decode cX6_init 30 = .ok (.aload_n 0, 1) := by decide +kernel
theorem dX6_init_31 : decode cX6_init 31 = .ok (.getfield 9, 3) := by decide +kernel
theorem dX6_init_34 : decode cX6_init 34 = .ok (.iconst 1, 1) := by decide +kernel
theorem dX6_init_35 : decode cX6_init 35 = .ok (.new 7, 3) := by decide +kernel
theorem dX6_init_38 : decode cX6_init 38 = .ok (.dup, 1) := by decide +kernel
theorem dX6_init_39 : decode cX6_init 39 = .ok (.getstatic 22, 3) := by decide +kernel
theorem dX6_init_42 : decode cX6_init 42 = .ok (.iconst 4, 1) := by decide +kernel
theorem dX6_init_43 : decode cX6_init 43 = .ok (.invokespecial 19, 3) := by decide +kernel
theorem dX6_init_46 : decode cX6_init 46 = .ok (.aastore, 1) := by decide +kernel
theorem dX6_init_47 : decode cX6_init 47 = .ok (.aload_n 0, 1) := by decide +kernel
theorem dX6_init_48 : decode cX6_init 48 = .ok (.new 25, 3) := by decide +kernel
theorem dX6_init_51 : decode cX6_init 51 = .ok (.dup, 1) := by decide +kernel
theorem dX6_init_52 : decode cX6_init 52 = .ok (.invokespecial 27, 3) := by decide +kernel
theorem dX6_init_55 : decode cX6_init 55 = .ok (.putfield 28, 3) := by decide +kernel
theorem dX6_init_58 : decode cX6_init 58 = .ok (.aload_n 0, 1) := by decide +kernel
theorem dX6_init_59 : decode cX6_init 59 = .ok (.new 32, 3) := by decide +kernel
theorem dX6_init_62 : decode cX6_init 62 = .ok (.dup, 1) := by decide +kernel
theorem dX6_init_63 : decode cX6_init 63 = .ok (.invokespecial 34, 3) := by decide +kernel
theorem dX6_init_66 : decode cX6_init 66 = .ok (.putfield 35, 3) := by decide +kernel
theorem dX6_init_69 : decode cX6_init 69 = .ok (.aload_n 0, 1) := by decide +kernel
theorem dX6_init_70 : decode cX6_init 70 = .ok (.iconst 4, 1) := by decide +kernel
theorem dX6_init_71 : decode cX6_init 71 = .ok (.anewarray 39, 3) := by decide +kernel
theorem dX6_init_74 : decode cX6_init 74 = .ok (.putfield 41, 3) := by decide +kernel
theorem dX6_init_77 : decode cX6_init 77 = .ok (.iconst 0, 1) := by decide +kernel
theorem dX6_init_78 : decode cX6_init 78 = .ok (.istore_n 1, 1) := by decide +kernel
theorem dX6_init_79 : decode cX6_init 79 = .ok (.iload_n 1, 1) := by decide +kernel
theorem dX6_init_80 : decode cX6_init 80 = .ok (.iconst 4, 1) := by decide +kernel
theorem dX6_init_81 : decode cX6_init 81 = .ok (.if_icmp .ge 22, 3) := by decide +kernel
theorem dX6_init_84 : decode cX6_init 84 = .ok (.aload_n 0, 1) := by decide +kernel
theorem dX6_init_85 : decode cX6_init 85 = .ok (.getfield 41, 3) := by decide +kernel
theorem dX6_init_88 : decode cX6_init 88 = .ok (.iload_n 1, 1) := by decide +kernel
theorem dX6_init_89 : decode cX6_init 89 = .ok (.new 39, 3) := by decide +kernel
theorem dX6_init_92 : decode cX6_init 92 = .ok (.dup, 1) := by decide +kernel
theorem dX6_init_93 : decode cX6_init 93 = .ok (.invokespecial 45, 3) := by decide +kernel
theorem dX6_init_96 : decode cX6_init 96 = .ok (.aastore, 1) := by decide +kernel
theorem dX6_init_97 : decode cX6_init 97 = .ok (.iinc 1 1, 3) := by decide +kernel
theorem dX6_init_100 : decode cX6_init 100 = .ok (.goto (-21), 3) := by decide +kernel
theorem dX6_init_103 : decode cX6_init 103 = .ok (.aload_n 0, 1) := by decide +kernel
theorem dX6_init_104 : decode cX6_init 104 = .ok (.new 46, 3) := by decide +kernel
theorem dX6_init_107 : decode cX6_init 107 = .ok (.dup, 1) := by decide +kernel
theorem dX6_init_108 : decode cX6_init 108 = .ok (.invokespecial 48, 3) := by decide +kernel
theorem dX6_init_111 : decode cX6_init 111 = .ok (.putfield 49, 3) := by decide +kernel
theorem dX6_init_114 : decode cX6_init 114 = .ok (.aload_n 0, 1) := by decide +kernel
theorem dX6_init_115 : decode cX6_init 115 = .ok (.new 46, 3) := by decide +kernel
theorem dX6_init_118 : decode cX6_init 118 = .ok (.dup, 1) := by decide +kernel
theorem dX6_init_119 : decode cX6_init 119 = .ok (.invokespecial 48, 3) := by decide +kernel
theorem dX6_init_122 : decode cX6_init 122 = .ok (.putfield 53, 3) := by decide +kernel
theorem dX6_init_125 : decode cX6_init 125 = .ok (.aload_n 0, 1) := by decide +kernel
theorem dX6_init_126 : decode cX6_init 126 = .ok (.new 56, 3) := by decide +kernel
theorem dX6_init_129 : decode cX6_init 129 = .ok (.dup, 1) := by decide +kernel
theorem dX6_init_130 : decode cX6_init 130 = .ok (.invokespecial 58, 3) := by decide +kernel
theorem dX6_init_133 : decode cX6_init 133 = .ok (.putfield 59, 3) := by decide +kernel
theorem dX6_init_136 : decode cX6_init 136 = .ok (.aload_n 0, 1) := by decide +kernel
theorem dX6_init_137 : decode cX6_init 137 = .ok (.iconst 0, 1) := by decide +kernel
theorem dX6_init_138 : decode cX6_init 138 = .ok (.putfield 63, 3) := by decide +kernel
theorem dX6_init_141 : decode cX6_init 141 = .ok (.aload_n 0, 1) := by decide +kernel
theorem dX6_init_142 : decode cX6_init 142 = .ok (.iconst 0, 1) := by decide +kernel
theorem dX6_init_143 : decode cX6_init 143 = .ok (.putfield 67, 3) := by decide +kernel
theorem dX6_init_146 : decode cX6_init 146 = .ok (.return_, 1) := by decide +kernel
theorem dX6_type_0 : decode cX6_type 0 = .ok (.iload_n 1, 1) := by decide +kernel
theorem dX6_type_1 : decode cX6_type 1 = .ok (.invokestatic 71, 3) := by decide +kernel
theorem dX6_type_4 : decode cX6_type 4 = .ok (.ifCond .eq 14, 3) := by decide +kernel
theorem dX6_type_7 : decode cX6_type 7 = .ok (.iload_n 2, 1) := by decide +kernel
theorem dX6_type_8 : decode cX6_type 8 = .ok (.iconst 0, 1) := by decide +kernel
theorem dX6_type_9 : decode cX6_type 9 = .ok (.sipush 255, 3) := by decide +kernel
theorem dX6_type_12 : decode cX6_type 12 = .ok (.invokestatic 75, 3) := by decide +kernel
theorem dX6_type_15 : decode cX6_type 15 = .ok (.ifCond .ne 6, 3) := by decide +kernel
theorem dX6_type_18 : decode cX6_type 18 = .ok (.bipush (-2), 2) := by decide +kernel
theorem dX6_type_20 : decode cX6_type 20 = .ok (.ireturn, 1) := by decide +kernel
theorem dX6_type_21 : decode cX6_type 21 = .ok (.aload_n 0, 1) := by decide +kernel
theorem dX6_type_22 : decode cX6_type 22 = .ok (.getfield 9, 3) := by decide +kernel
theorem dX6_type_25 : decode cX6_type 25 = .ok (.iload_n 1, 1) := by decide +kernel
theorem dX6_type_26 : decode cX6_type 26 = .ok (.aaload, 1) := by decide +kernel
theorem dX6_type_27 : decode cX6_type 27 = .ok (.invokevirtual 79, 3) := by decide +kernel
theorem dX6_type_30 : decode cX6_type 30 = .ok (.ifCond .ne 6, 3) := by decide +kernel
theorem dX6_type_33 : decode cX6_type 33 = .ok (.bipush (-4), 2) := by decide +kernel
theorem dX6_type_35 : decode cX6_type 35 = .ok (.ireturn, 1) := by decide +kernel
theorem dX6_type_36 : decode cX6_type 36 = .ok (.aload_n 0, 1) := by decide +kernel
theorem dX6_type_37 : decode cX6_type 37 = .ok (.iconst 0, 1) := by decide +kernel
theorem dX6_type_38 : decode cX6_type 38 = .ok (.putfield 63, 3) := by decide +kernel
theorem dX6_type_41 : decode cX6_type 41 = .ok (.aload_n 0, 1) := by decide +kernel
theorem dX6_type_42 : decode cX6_type 42 = .ok (.getfield 9, 3) := by decide +kernel
theorem dX6_type_45 : decode cX6_type 45 = .ok (.iload_n 1, 1) := by decide +kernel
theorem dX6_type_46 : decode cX6_type 46 = .ok (.aaload, 1) := by decide +kernel
theorem dX6_type_47 : decode cX6_type 47 = .ok (.iload_n 2, 1) := by decide +kernel
theorem dX6_type_48 : decode cX6_type 48 = .ok (.invokevirtual 83, 3) := by decide +kernel
theorem dX6_type_51 : decode cX6_type 51 = .ok (.ireturn, 1) := by decide +kernel
theorem dX6_wipe_0 : decode cX6_wipe 0 = .ok (.iload_n 1, 1) := by decide +kernel
theorem dX6_wipe_1 : decode cX6_wipe 1 = .ok (.invokestatic 71, 3) := by decide +kernel
theorem dX6_wipe_4 : decode cX6_wipe 4 = .ok (.ifCond .ne 6, 3) := by decide +kernel
theorem dX6_wipe_7 : decode cX6_wipe 7 = .ok (.bipush (-2), 2) := by decide +kernel
theorem dX6_wipe_9 : decode cX6_wipe 9 = .ok (.ireturn, 1) := by decide +kernel
theorem dX6_wipe_10 : decode cX6_wipe 10 = .ok (.aload_n 0, 1) := by decide +kernel
theorem dX6_wipe_11 : decode cX6_wipe 11 = .ok (.iconst 0, 1) := by decide +kernel
theorem dX6_wipe_12 : decode cX6_wipe 12 = .ok (.putfield 63, 3) := by decide +kernel
theorem dX6_wipe_15 : decode cX6_wipe 15 = .ok (.aload_n 0, 1) := by decide +kernel
theorem dX6_wipe_16 : decode cX6_wipe 16 = .ok (.getfield 9, 3) := by decide +kernel
theorem dX6_wipe_19 : decode cX6_wipe 19 = .ok (.iload_n 1, 1) := by decide +kernel
theorem dX6_wipe_20 : decode cX6_wipe 20 = .ok (.aaload, 1) := by decide +kernel
theorem dX6_wipe_21 : decode cX6_wipe 21 = .ok (.invokevirtual 87, 3) := by decide +kernel
theorem dX6_wipe_24 : decode cX6_wipe 24 = .ok (.ireturn, 1) := by decide +kernel
theorem dX6_undo_0 : decode cX6_undo 0 = .ok (.iload_n 1, 1) := by decide +kernel
theorem dX6_undo_1 : decode cX6_undo 1 = .ok (.invokestatic 71, 3) := by decide +kernel
theorem dX6_undo_4 : decode cX6_undo 4 = .ok (.ifCond .ne 6, 3) := by decide +kernel
theorem dX6_undo_7 : decode cX6_undo 7 = .ok (.bipush (-2), 2) := by decide +kernel
theorem dX6_undo_9 : decode cX6_undo 9 = .ok (.ireturn, 1) := by decide +kernel
theorem dX6_undo_10 : decode cX6_undo 10 = .ok (.aload_n 0, 1) := by decide +kernel
theorem dX6_undo_11 : decode cX6_undo 11 = .ok (.getfield 9, 3) := by decide +kernel
theorem dX6_undo_14 : decode cX6_undo 14 = .ok (.iload_n 1, 1) := by decide +kernel
theorem dX6_undo_15 : decode cX6_undo 15 = .ok (.aaload, 1) := by decide +kernel
theorem dX6_undo_16 : decode cX6_undo 16 = .ok (.getfield 91, 3) := by decide +kernel
theorem dX6_undo_19 : decode cX6_undo 19 = .ok (.ifCond .ne 6, 3) := by decide +kernel
theorem dX6_undo_22 : decode cX6_undo 22 = .ok (.bipush (-3), 2) := by decide +kernel
theorem dX6_undo_24 : decode cX6_undo 24 = .ok (.ireturn, 1) := by decide +kernel
theorem dX6_undo_25 : decode cX6_undo 25 = .ok (.aload_n 0, 1) := by decide +kernel
theorem dX6_undo_26 : decode cX6_undo 26 = .ok (.iconst 0, 1) := by decide +kernel
theorem dX6_undo_27 : decode cX6_undo 27 = .ok (.putfield 63, 3) := by decide +kernel
theorem dX6_undo_30 : decode cX6_undo 30 = .ok (.aload_n 0, 1) := by decide +kernel
theorem dX6_undo_31 : decode cX6_undo 31 = .ok (.getfield 9, 3) := by decide +kernel
theorem dX6_undo_34 : decode cX6_undo 34 = .ok (.iload_n 1, 1) := by decide +kernel
theorem dX6_undo_35 : decode cX6_undo 35 = .ok (.aaload, 1) := by decide +kernel
theorem dX6_undo_36 : decode cX6_undo 36 = .ok (.invokevirtual 94, 3) := by decide +kernel
theorem dX6_undo_39 : decode cX6_undo 39 = .ok (.ireturn, 1) := by decide +kernel
theorem dX6_fault_0 : decode cX6_fault 0 = .ok (.iload_n 1, 1) := by decide +kernel
theorem dX6_fault_1 : decode cX6_fault 1 = .ok (.invokestatic 71, 3) := by decide +kernel
theorem dX6_fault_4 : decode cX6_fault 4 = .ok (.ifCond .eq 15, 3) := by decide +kernel
theorem dX6_fault_7 : decode cX6_fault 7 = .ok (.aload_n 0, 1) := by decide +kernel
theorem dX6_fault_8 : decode cX6_fault 8 = .ok (.getfield 9, 3) := by decide +kernel
theorem dX6_fault_11 : decode cX6_fault 11 = .ok (.iload_n 1, 1) := by decide +kernel
theorem dX6_fault_12 : decode cX6_fault 12 = .ok (.aaload, 1) := by decide +kernel
theorem dX6_fault_13 : decode cX6_fault 13 = .ok (.invokevirtual 97, 3) := by decide +kernel
theorem dX6_fault_16 : decode cX6_fault 16 = .ok (.goto 5, 3) := by decide +kernel
theorem dX6_fault_19 : decode cX6_fault 19 = .ok (.bipush (-2), 2) := by decide +kernel
theorem dX6_fault_21 : decode cX6_fault 21 = .ok (.ireturn, 1) := by decide +kernel
theorem dX6_caller_0 : decode cX6_caller 0 = .ok (.aload_n 0, 1) := by decide +kernel
theorem dX6_caller_1 : decode cX6_caller 1 = .ok (.invokevirtual 100, 3) := by decide +kernel
theorem dX6_caller_4 : decode cX6_caller 4 = .ok (.astore_n 3, 1) := by decide +kernel
theorem dX6_caller_5 : decode cX6_caller 5 = .ok (.aload_n 3, 1) := by decide +kernel
theorem dX6_caller_6 : decode cX6_caller 6 = .ok (.iload_n 1, 1) := by decide +kernel
theorem dX6_caller_7 : decode cX6_caller 7 = .ok (.invokevirtual 104, 3) := by decide +kernel
theorem dX6_caller_10 : decode cX6_caller 10 = .ok (.ifCond .ne 6, 3) := by decide +kernel
theorem dX6_caller_13 : decode cX6_caller 13 = .ok (.bipush (-2), 2) := by decide +kernel
theorem dX6_caller_15 : decode cX6_caller 15 = .ok (.ireturn, 1) := by decide +kernel
theorem dX6_caller_16 : decode cX6_caller 16 = .ok (.iload_n 2, 1) := by decide +kernel
theorem dX6_caller_17 : decode cX6_caller 17 = .ok (.tableswitch 59 0 3 #[31, 38, 45, 52], 31) := by decide +kernel
theorem dX6_caller_48 : decode cX6_caller 48 = .ok (.aload_n 3, 1) := by decide +kernel
theorem dX6_caller_49 : decode cX6_caller 49 = .ok (.getfield 107, 3) := by decide +kernel
theorem dX6_caller_52 : decode cX6_caller 52 = .ok (.iload_n 1, 1) := by decide +kernel
theorem dX6_caller_53 : decode cX6_caller 53 = .ok (.iaload, 1) := by decide +kernel
theorem dX6_caller_54 : decode cX6_caller 54 = .ok (.ireturn, 1) := by decide +kernel
theorem dX6_caller_55 : decode cX6_caller 55 = .ok (.aload_n 3, 1) := by decide +kernel
theorem dX6_caller_56 : decode cX6_caller 56 = .ok (.getfield 110, 3) := by decide +kernel
theorem dX6_caller_59 : decode cX6_caller 59 = .ok (.iload_n 1, 1) := by decide +kernel
theorem dX6_caller_60 : decode cX6_caller 60 = .ok (.iaload, 1) := by decide +kernel
theorem dX6_caller_61 : decode cX6_caller 61 = .ok (.ireturn, 1) := by decide +kernel
theorem dX6_caller_62 : decode cX6_caller 62 = .ok (.aload_n 3, 1) := by decide +kernel
theorem dX6_caller_63 : decode cX6_caller 63 = .ok (.getfield 113, 3) := by decide +kernel
theorem dX6_caller_66 : decode cX6_caller 66 = .ok (.iload_n 1, 1) := by decide +kernel
theorem dX6_caller_67 : decode cX6_caller 67 = .ok (.iaload, 1) := by decide +kernel
theorem dX6_caller_68 : decode cX6_caller 68 = .ok (.ireturn, 1) := by decide +kernel
theorem dX6_caller_69 : decode cX6_caller 69 = .ok (.aload_n 3, 1) := by decide +kernel
theorem dX6_caller_70 : decode cX6_caller 70 = .ok (.getfield 116, 3) := by decide +kernel
theorem dX6_caller_73 : decode cX6_caller 73 = .ok (.iload_n 1, 1) := by decide +kernel
theorem dX6_caller_74 : decode cX6_caller 74 = .ok (.iaload, 1) := by decide +kernel
theorem dX6_caller_75 : decode cX6_caller 75 = .ok (.ireturn, 1) := by decide +kernel
theorem dX6_caller_76 : decode cX6_caller 76 = .ok (.bipush (-2), 2) := by decide +kernel
theorem dX6_caller_78 : decode cX6_caller 78 = .ok (.ireturn, 1) := by decide +kernel
theorem dX6_man_0 : decode cX6_man 0 = .ok (.aload_n 0, 1) := by decide +kernel
theorem dX6_man_1 : decode cX6_man 1 = .ok (.invokevirtual 100, 3) := by decide +kernel
theorem dX6_man_4 : decode cX6_man 4 = .ok (.astore_n 3, 1) := by decide +kernel
theorem dX6_man_5 : decode cX6_man 5 = .ok (.aload_n 3, 1) := by decide +kernel
theorem dX6_man_6 : decode cX6_man 6 = .ok (.iload_n 1, 1) := by decide +kernel
theorem dX6_man_7 : decode cX6_man 7 = .ok (.invokevirtual 119, 3) := by decide +kernel
theorem dX6_man_10 : decode cX6_man 10 = .ok (.ifCond .ne 6, 3) := by decide +kernel
theorem dX6_man_13 : decode cX6_man 13 = .ok (.bipush (-2), 2) := by decide +kernel
theorem dX6_man_15 : decode cX6_man 15 = .ok (.ireturn, 1) := by decide +kernel
theorem dX6_man_16 : decode cX6_man 16 = .ok (.iload_n 2, 1) := by decide +kernel
theorem dX6_man_17 : decode cX6_man 17 = .ok (.tableswitch 48 0 2 #[27, 34, 41], 27) := by decide +kernel
theorem dX6_man_44 : decode cX6_man 44 = .ok (.aload_n 3, 1) := by decide +kernel
theorem dX6_man_45 : decode cX6_man 45 = .ok (.getfield 122, 3) := by decide +kernel
theorem dX6_man_48 : decode cX6_man 48 = .ok (.iload_n 1, 1) := by decide +kernel
theorem dX6_man_49 : decode cX6_man 49 = .ok (.iaload, 1) := by decide +kernel
theorem dX6_man_50 : decode cX6_man 50 = .ok (.ireturn, 1) := by decide +kernel
theorem dX6_man_51 : decode cX6_man 51 = .ok (.aload_n 3, 1) := by decide +kernel
theorem dX6_man_52 : decode cX6_man 52 = .ok (.getfield 125, 3) := by decide +kernel
theorem dX6_man_55 : decode cX6_man 55 = .ok (.iload_n 1, 1) := by decide +kernel
theorem dX6_man_56 : decode cX6_man 56 = .ok (.iaload, 1) := by decide +kernel
theorem dX6_man_57 : decode cX6_man 57 = .ok (.ireturn, 1) := by decide +kernel
theorem dX6_man_58 : decode cX6_man 58 = .ok (.aload_n 3, 1) := by decide +kernel
theorem dX6_man_59 : decode cX6_man 59 = .ok (.getfield 128, 3) := by decide +kernel
theorem dX6_man_62 : decode cX6_man 62 = .ok (.iload_n 1, 1) := by decide +kernel
theorem dX6_man_63 : decode cX6_man 63 = .ok (.iaload, 1) := by decide +kernel
theorem dX6_man_64 : decode cX6_man 64 = .ok (.ireturn, 1) := by decide +kernel
theorem dX6_man_65 : decode cX6_man 65 = .ok (.bipush (-2), 2) := by decide +kernel
theorem dX6_man_67 : decode cX6_man 67 = .ok (.ireturn, 1) := by decide +kernel
theorem dX6_card_0 : decode cX6_card 0 = .ok (.aload_n 0, 1) := by decide +kernel
theorem dX6_card_1 : decode cX6_card 1 = .ok (.iload_n 1, 1) := by decide +kernel
theorem dX6_card_2 : decode cX6_card 2 = .ok (.iload_n 2, 1) := by decide +kernel
theorem dX6_card_3 : decode cX6_card 3 = .ok (.invokevirtual 131, 3) := by decide +kernel
theorem dX6_card_6 : decode cX6_card 6 = .ok (.ireturn, 1) := by decide +kernel
theorem dX6_back_0 : decode cX6_back 0 = .ok (.aload_n 0, 1) := by decide +kernel
theorem dX6_back_1 : decode cX6_back 1 = .ok (.getfield 28, 3) := by decide +kernel
theorem dX6_back_4 : decode cX6_back 4 = .ok (.getfield 135, 3) := by decide +kernel
theorem dX6_back_7 : decode cX6_back 7 = .ok (.ifCond .ne 6, 3) := by decide +kernel
theorem dX6_back_10 : decode cX6_back 10 = .ok (.bipush (-3), 2) := by decide +kernel
theorem dX6_back_12 : decode cX6_back 12 = .ok (.ireturn, 1) := by decide +kernel
theorem dX6_back_13 : decode cX6_back 13 = .ok (.aload_n 0, 1) := by decide +kernel
theorem dX6_back_14 : decode cX6_back 14 = .ok (.iconst 0, 1) := by decide +kernel
theorem dX6_back_15 : decode cX6_back 15 = .ok (.putfield 63, 3) := by decide +kernel
theorem dX6_back_18 : decode cX6_back 18 = .ok (.aload_n 0, 1) := by decide +kernel
theorem dX6_back_19 : decode cX6_back 19 = .ok (.getfield 28, 3) := by decide +kernel
theorem dX6_back_22 : decode cX6_back 22 = .ok (.invokevirtual 136, 3) := by decide +kernel
theorem dX6_back_25 : decode cX6_back 25 = .ok (.ireturn, 1) := by decide +kernel
theorem dX6_read_0 : decode cX6_read 0 = .ok (.iload_n 1, 1) := by decide +kernel
theorem dX6_read_1 : decode cX6_read 1 = .ok (.invokestatic 137, 3) := by decide +kernel
theorem dX6_read_4 : decode cX6_read 4 = .ok (.ifCond .ne 6, 3) := by decide +kernel
theorem dX6_read_7 : decode cX6_read 7 = .ok (.bipush (-2), 2) := by decide +kernel
theorem dX6_read_9 : decode cX6_read 9 = .ok (.ireturn, 1) := by decide +kernel
theorem dX6_read_10 : decode cX6_read 10 = .ok (.aload_n 0, 1) := by decide +kernel
theorem dX6_read_11 : decode cX6_read 11 = .ok (.getfield 41, 3) := by decide +kernel
theorem dX6_read_14 : decode cX6_read 14 = .ok (.iload_n 1, 1) := by decide +kernel
theorem dX6_read_15 : decode cX6_read 15 = .ok (.aaload, 1) := by decide +kernel
theorem dX6_read_16 : decode cX6_read 16 = .ok (.astore_n 2, 1) := by decide +kernel
theorem dX6_read_17 : decode cX6_read 17 = .ok (.aload_n 2, 1) := by decide +kernel
theorem dX6_read_18 : decode cX6_read 18 = .ok (.invokevirtual 140, 3) := by decide +kernel
theorem dX6_read_21 : decode cX6_read 21 = .ok (.ifCond .eq 9, 3) := by decide +kernel
theorem dX6_read_24 : decode cX6_read 24 = .ok (.aload_n 0, 1) := by decide +kernel
theorem dX6_read_25 : decode cX6_read 25 = .ok (.iconst 1, 1) := by decide +kernel
theorem dX6_read_26 : decode cX6_read 26 = .ok (.invokevirtual 143, 3) := by decide +kernel
theorem dX6_read_29 : decode cX6_read 29 = .ok (.ireturn, 1) := by decide +kernel
theorem dX6_read_30 : decode cX6_read 30 = .ok (.iconst 0, 1) := by decide +kernel
theorem dX6_read_31 : decode cX6_read 31 = .ok (.istore_n 3, 1) := by decide +kernel
theorem dX6_read_32 : decode cX6_read 32 = .ok (.iconst 2, 1) := by decide +kernel
theorem dX6_read_33 : decode cX6_read 33 = .ok (.iload_n 3, 1) := by decide +kernel
theorem dX6_read_34 : decode cX6_read 34 = .ok (.imul, 1) := by decide +kernel
theorem dX6_read_35 : decode cX6_read 35 = .ok (.iconst 1, 1) := by decide +kernel
theorem dX6_read_36 : decode cX6_read 36 = .ok (.iadd, 1) := by decide +kernel
theorem dX6_read_37 : decode cX6_read 37 = .ok (.aload_n 2, 1) := by decide +kernel
theorem dX6_read_38 : decode cX6_read 38 = .ok (.getfield 146, 3) := by decide +kernel
theorem dX6_read_41 : decode cX6_read 41 = .ok (.if_icmp .ge 34, 3) := by decide +kernel
theorem dX6_read_44 : decode cX6_read 44 = .ok (.aload_n 0, 1) := by decide +kernel
theorem dX6_read_45 : decode cX6_read 45 = .ok (.aload_n 2, 1) := by decide +kernel
theorem dX6_read_46 : decode cX6_read 46 = .ok (.getfield 147, 3) := by decide +kernel
theorem dX6_read_49 : decode cX6_read 49 = .ok (.iconst 2, 1) := by decide +kernel
theorem dX6_read_50 : decode cX6_read 50 = .ok (.iload_n 3, 1) := by decide +kernel
theorem dX6_read_51 : decode cX6_read 51 = .ok (.imul, 1) := by decide +kernel
theorem dX6_read_52 : decode cX6_read 52 = .ok (.iaload, 1) := by decide +kernel
theorem dX6_read_53 : decode cX6_read 53 = .ok (.aload_n 2, 1) := by decide +kernel
theorem dX6_read_54 : decode cX6_read 54 = .ok (.getfield 147, 3) := by decide +kernel
theorem dX6_read_57 : decode cX6_read 57 = .ok (.iconst 2, 1) := by decide +kernel
theorem dX6_read_58 : decode cX6_read 58 = .ok (.iload_n 3, 1) := by decide +kernel
theorem dX6_read_59 : decode cX6_read 59 = .ok (.imul, 1) := by decide +kernel
theorem dX6_read_60 : decode cX6_read 60 = .ok (.iconst 1, 1) := by decide +kernel
theorem dX6_read_61 : decode cX6_read 61 = .ok (.iadd, 1) := by decide +kernel
theorem dX6_read_62 : decode cX6_read 62 = .ok (.iaload, 1) := by decide +kernel
theorem dX6_read_63 : decode cX6_read 63 = .ok (.invokevirtual 131, 3) := by decide +kernel
theorem dX6_read_66 : decode cX6_read 66 = .ok (.ifCond .le 9, 3) := by decide +kernel
theorem dX6_read_69 : decode cX6_read 69 = .ok (.iinc 3 1, 3) := by decide +kernel
theorem dX6_read_72 : decode cX6_read 72 = .ok (.goto (-40), 3) := by decide +kernel
theorem dX6_read_75 : decode cX6_read 75 = .ok (.iload_n 3, 1) := by decide +kernel
theorem dX6_read_76 : decode cX6_read 76 = .ok (.ireturn, 1) := by decide +kernel
theorem dX6_stands_0 : decode cX6_stands 0 = .ok (.aload_n 0, 1) := by decide +kernel
theorem dX6_stands_1 : decode cX6_stands 1 = .ok (.invokevirtual 100, 3) := by decide +kernel
theorem dX6_stands_4 : decode cX6_stands 4 = .ok (.astore_n 3, 1) := by decide +kernel
theorem dX6_stands_5 : decode cX6_stands 5 = .ok (.iload_n 1, 1) := by decide +kernel
theorem dX6_stands_6 : decode cX6_stands 6 = .ok (.invokestatic 150, 3) := by decide +kernel
theorem dX6_stands_9 : decode cX6_stands 9 = .ok (.ifCond .eq 20, 3) := by decide +kernel
theorem dX6_stands_12 : decode cX6_stands 12 = .ok (.aload_n 3, 1) := by decide +kernel
theorem dX6_stands_13 : decode cX6_stands 13 = .ok (.iload_n 2, 1) := by decide +kernel
theorem dX6_stands_14 : decode cX6_stands 14 = .ok (.invokevirtual 104, 3) := by decide +kernel
theorem dX6_stands_17 : decode cX6_stands 17 = .ok (.ifCond .eq 12, 3) := by decide +kernel
theorem dX6_stands_20 : decode cX6_stands 20 = .ok (.aload_n 3, 1) := by decide +kernel
theorem dX6_stands_21 : decode cX6_stands 21 = .ok (.iload_n 2, 1) := by decide +kernel
theorem dX6_stands_22 : decode cX6_stands 22 = .ok (.iload_n 1, 1) := by decide +kernel
theorem dX6_stands_23 : decode cX6_stands 23 = .ok (.invokevirtual 153, 3) := by decide +kernel
theorem dX6_stands_26 : decode cX6_stands 26 = .ok (.goto 5, 3) := by decide +kernel
theorem dX6_stands_29 : decode cX6_stands 29 = .ok (.bipush (-2), 2) := by decide +kernel
theorem dX6_stands_31 : decode cX6_stands 31 = .ok (.ireturn, 1) := by decide +kernel
theorem dX6_name_0 : decode cX6_name 0 = .ok (.aload_n 0, 1) := by decide +kernel
theorem dX6_name_1 : decode cX6_name 1 = .ok (.invokevirtual 100, 3) := by decide +kernel
theorem dX6_name_4 : decode cX6_name 4 = .ok (.astore_n 2, 1) := by decide +kernel
theorem dX6_name_5 : decode cX6_name 5 = .ok (.aload_n 2, 1) := by decide +kernel
theorem dX6_name_6 : decode cX6_name 6 = .ok (.iload_n 1, 1) := by decide +kernel
theorem dX6_name_7 : decode cX6_name 7 = .ok (.invokevirtual 104, 3) := by decide +kernel
theorem dX6_name_10 : decode cX6_name 10 = .ok (.ifCond .eq 12, 3) := by decide +kernel
theorem dX6_name_13 : decode cX6_name 13 = .ok (.aload_n 2, 1) := by decide +kernel
theorem dX6_name_14 : decode cX6_name 14 = .ok (.getfield 156, 3) := by decide +kernel
theorem dX6_name_17 : decode cX6_name 17 = .ok (.iload_n 1, 1) := by decide +kernel
theorem dX6_name_18 : decode cX6_name 18 = .ok (.iaload, 1) := by decide +kernel
theorem dX6_name_19 : decode cX6_name 19 = .ok (.goto 5, 3) := by decide +kernel
theorem dX6_name_22 : decode cX6_name 22 = .ok (.bipush (-2), 2) := by decide +kernel
theorem dX6_name_24 : decode cX6_name 24 = .ok (.ireturn, 1) := by decide +kernel
theorem dX6_door_0 : decode cX6_door 0 = .ok (.iload_n 1, 1) := by decide +kernel
theorem dX6_door_1 : decode cX6_door 1 = .ok (.invokestatic 150, 3) := by decide +kernel
theorem dX6_door_4 : decode cX6_door 4 = .ok (.ifCond .ne 6, 3) := by decide +kernel
theorem dX6_door_7 : decode cX6_door 7 = .ok (.bipush (-2), 2) := by decide +kernel
theorem dX6_door_9 : decode cX6_door 9 = .ok (.ireturn, 1) := by decide +kernel
theorem dX6_door_10 : decode cX6_door 10 = .ok (.aload_n 0, 1) := by decide +kernel
theorem dX6_door_11 : decode cX6_door 11 = .ok (.invokevirtual 100, 3) := by decide +kernel
theorem dX6_door_14 : decode cX6_door 14 = .ok (.astore_n 3, 1) := by decide +kernel
theorem dX6_door_15 : decode cX6_door 15 = .ok (.iload_n 2, 1) := by decide +kernel
theorem dX6_door_16 : decode cX6_door 16 = .ok (.tableswitch 46 0 2 #[28, 34, 40], 28) := by decide +kernel
theorem dX6_door_44 : decode cX6_door 44 = .ok (.aload_n 3, 1) := by decide +kernel
theorem dX6_door_45 : decode cX6_door 45 = .ok (.iload_n 1, 1) := by decide +kernel
theorem dX6_door_46 : decode cX6_door 46 = .ok (.invokevirtual 159, 3) := by decide +kernel
theorem dX6_door_49 : decode cX6_door 49 = .ok (.ireturn, 1) := by decide +kernel
theorem dX6_door_50 : decode cX6_door 50 = .ok (.aload_n 3, 1) := by decide +kernel
theorem dX6_door_51 : decode cX6_door 51 = .ok (.iload_n 1, 1) := by decide +kernel
theorem dX6_door_52 : decode cX6_door 52 = .ok (.invokevirtual 162, 3) := by decide +kernel
theorem dX6_door_55 : decode cX6_door 55 = .ok (.ireturn, 1) := by decide +kernel
theorem dX6_door_56 : decode cX6_door 56 = .ok (.aload_n 3, 1) := by decide +kernel
theorem dX6_door_57 : decode cX6_door 57 = .ok (.iload_n 1, 1) := by decide +kernel
theorem dX6_door_58 : decode cX6_door 58 = .ok (.invokevirtual 165, 3) := by decide +kernel
theorem dX6_door_61 : decode cX6_door 61 = .ok (.ireturn, 1) := by decide +kernel
theorem dX6_door_62 : decode cX6_door 62 = .ok (.bipush (-2), 2) := by decide +kernel
theorem dX6_door_64 : decode cX6_door 64 = .ok (.ireturn, 1) := by decide +kernel
theorem dX6_warmth_0 : decode cX6_warmth 0 = .ok (.iload_n 1, 1) := by decide +kernel
theorem dX6_warmth_1 : decode cX6_warmth 1 = .ok (.invokestatic 150, 3) := by decide +kernel
theorem dX6_warmth_4 : decode cX6_warmth 4 = .ok (.ifCond .eq 14, 3) := by decide +kernel
theorem dX6_warmth_7 : decode cX6_warmth 7 = .ok (.aload_n 0, 1) := by decide +kernel
theorem dX6_warmth_8 : decode cX6_warmth 8 = .ok (.invokevirtual 100, 3) := by decide +kernel
theorem dX6_warmth_11 : decode cX6_warmth 11 = .ok (.iload_n 1, 1) := by decide +kernel
theorem dX6_warmth_12 : decode cX6_warmth 12 = .ok (.invokevirtual 168, 3) := by decide +kernel
theorem dX6_warmth_15 : decode cX6_warmth 15 = .ok (.goto 5, 3) := by decide +kernel
theorem dX6_warmth_18 : decode cX6_warmth 18 = .ok (.ldc 171, 2) := by decide +kernel
theorem dX6_warmth_20 : decode cX6_warmth 20 = .ok (.ireturn, 1) := by decide +kernel
theorem dX6_coldest_0 : decode cX6_coldest 0 = .ok (.aload_n 0, 1) := by decide +kernel
theorem dX6_coldest_1 : decode cX6_coldest 1 = .ok (.invokevirtual 100, 3) := by decide +kernel
theorem dX6_coldest_4 : decode cX6_coldest 4 = .ok (.astore_n 1, 1) := by decide +kernel
theorem dX6_coldest_5 : decode cX6_coldest 5 = .ok (.iconst 0, 1) := by decide +kernel
theorem dX6_coldest_6 : decode cX6_coldest 6 = .ok (.istore_n 2, 1) := by decide +kernel
theorem dX6_coldest_7 : decode cX6_coldest 7 = .ok (.aload_n 1, 1) := by decide +kernel
theorem dX6_coldest_8 : decode cX6_coldest 8 = .ok (.iconst 0, 1) := by decide +kernel
theorem dX6_coldest_9 : decode cX6_coldest 9 = .ok (.invokevirtual 168, 3) := by decide +kernel
theorem dX6_coldest_12 : decode cX6_coldest 12 = .ok (.istore_n 3, 1) := by decide +kernel
theorem dX6_coldest_13 : decode cX6_coldest 13 = .ok (.iconst 1, 1) := by decide +kernel
theorem dX6_coldest_14 : decode cX6_coldest 14 = .ok (.istore 4, 2) := by decide +kernel
theorem dX6_coldest_16 : decode cX6_coldest 16 = .ok (.iload 4, 2) := by decide +kernel
theorem dX6_coldest_18 : decode cX6_coldest 18 = .ok (.bipush 24, 2) := by decide +kernel
theorem dX6_coldest_20 : decode cX6_coldest 20 = .ok (.if_icmp .ge 29, 3) := by decide +kernel
theorem dX6_coldest_23 : decode cX6_coldest 23 = .ok (.aload_n 1, 1) := by decide +kernel
theorem dX6_coldest_24 : decode cX6_coldest 24 = .ok (.iload 4, 2) := by decide +kernel
theorem dX6_coldest_26 : decode cX6_coldest 26 = .ok (.invokevirtual 168, 3) := by decide +kernel
theorem dX6_coldest_29 : decode cX6_coldest 29 = .ok (.istore 5, 2) := by decide +kernel
theorem dX6_coldest_31 : decode cX6_coldest 31 = .ok (.iload 5, 2) := by decide +kernel
theorem dX6_coldest_33 : decode cX6_coldest 33 = .ok (.iload_n 3, 1) := by decide +kernel
theorem dX6_coldest_34 : decode cX6_coldest 34 = .ok (.if_icmp .ge 9, 3) := by decide +kernel
theorem dX6_coldest_37 : decode cX6_coldest 37 = .ok (.iload 4, 2) := by decide +kernel
theorem dX6_coldest_39 : decode cX6_coldest 39 = .ok (.istore_n 2, 1) := by decide +kernel
theorem dX6_coldest_40 : decode cX6_coldest 40 = .ok (.iload 5, 2) := by decide +kernel
theorem dX6_coldest_42 : decode cX6_coldest 42 = .ok (.istore_n 3, 1) := by decide +kernel
theorem dX6_coldest_43 : decode cX6_coldest 43 = .ok (.iinc 4 1, 3) := by decide +kernel
theorem dX6_coldest_46 : decode cX6_coldest 46 = .ok (.goto (-30), 3) := by decide +kernel
theorem dX6_coldest_49 : decode cX6_coldest 49 = .ok (.iload_n 2, 1) := by decide +kernel
theorem dX6_coldest_50 : decode cX6_coldest 50 = .ok (.ireturn, 1) := by decide +kernel
theorem dX6_first_0 : decode cX6_first 0 = .ok (.iload_n 1, 1) := by decide +kernel
theorem dX6_first_1 : decode cX6_first 1 = .ok (.iconst 0, 1) := by decide +kernel
theorem dX6_first_2 : decode cX6_first 2 = .ok (.iconst 1, 1) := by decide +kernel
theorem dX6_first_3 : decode cX6_first 3 = .ok (.invokestatic 75, 3) := by decide +kernel
theorem dX6_first_6 : decode cX6_first 6 = .ok (.ifCond .ne 6, 3) := by decide +kernel
theorem dX6_first_9 : decode cX6_first 9 = .ok (.bipush (-2), 2) := by decide +kernel
theorem dX6_first_11 : decode cX6_first 11 = .ok (.ireturn, 1) := by decide +kernel
theorem dX6_first_12 : decode cX6_first 12 = .ok (.aload_n 0, 1) := by decide +kernel
theorem dX6_first_13 : decode cX6_first 13 = .ok (.invokevirtual 100, 3) := by decide +kernel
theorem dX6_first_16 : decode cX6_first 16 = .ok (.astore_n 2, 1) := by decide +kernel
theorem dX6_first_17 : decode cX6_first 17 = .ok (.aload_n 2, 1) := by decide +kernel
theorem dX6_first_18 : decode cX6_first 18 = .ok (.invokevirtual 172, 3) := by decide +kernel
theorem dX6_first_21 : decode cX6_first 21 = .ok (.istore_n 3, 1) := by decide +kernel
theorem dX6_first_22 : decode cX6_first 22 = .ok (.iload_n 1, 1) := by decide +kernel
theorem dX6_first_23 : decode cX6_first 23 = .ok (.iconst 1, 1) := by decide +kernel
theorem dX6_first_24 : decode cX6_first 24 = .ok (.if_icmp .eq 8, 3) := by decide +kernel
theorem dX6_first_27 : decode cX6_first 27 = .ok (.iload_n 3, 1) := by decide +kernel
theorem dX6_first_28 : decode cX6_first 28 = .ok (.iconst (-1), 1) := by decide +kernel
theorem dX6_first_29 : decode cX6_first 29 = .ok (.if_icmp .ne 7, 3) := by decide +kernel
theorem dX6_first_32 : decode cX6_first 32 = .ok (.iload_n 3, 1) := by decide +kernel
theorem dX6_first_33 : decode cX6_first 33 = .ok (.goto 9, 3) := by decide +kernel
theorem dX6_first_36 : decode cX6_first 36 = .ok (.aload_n 2, 1) := by decide +kernel
theorem dX6_first_37 : decode cX6_first 37 = .ok (.getfield 175, 3) := by decide +kernel
theorem dX6_first_40 : decode cX6_first 40 = .ok (.iload_n 3, 1) := by decide +kernel
theorem dX6_first_41 : decode cX6_first 41 = .ok (.iaload, 1) := by decide +kernel
theorem dX6_first_42 : decode cX6_first 42 = .ok (.ireturn, 1) := by decide +kernel
theorem dX6_sent_0 : decode cX6_sent 0 = .ok (.aload_n 0, 1) := by decide +kernel
theorem dX6_sent_1 : decode cX6_sent 1 = .ok (.invokevirtual 100, 3) := by decide +kernel
theorem dX6_sent_4 : decode cX6_sent 4 = .ok (.invokevirtual 178, 3) := by decide +kernel
theorem dX6_sent_7 : decode cX6_sent 7 = .ok (.ireturn, 1) := by decide +kernel
theorem dX6_wrong_0 : decode cX6_wrong 0 = .ok (.aload_n 0, 1) := by decide +kernel
theorem dX6_wrong_1 : decode cX6_wrong 1 = .ok (.invokevirtual 100, 3) := by decide +kernel
theorem dX6_wrong_4 : decode cX6_wrong 4 = .ok (.invokevirtual 181, 3) := by decide +kernel
theorem dX6_wrong_7 : decode cX6_wrong 7 = .ok (.ireturn, 1) := by decide +kernel
theorem dX6_sum_0 : decode cX6_sum 0 = .ok (.aload_n 0, 1) := by decide +kernel
theorem dX6_sum_1 : decode cX6_sum 1 = .ok (.invokevirtual 100, 3) := by decide +kernel
theorem dX6_sum_4 : decode cX6_sum 4 = .ok (.invokevirtual 184, 3) := by decide +kernel
theorem dX6_sum_7 : decode cX6_sum 7 = .ok (.ireturn, 1) := by decide +kernel
theorem dX6_leave_0 : decode cX6_leave 0 = .ok (.iload_n 1, 1) := by decide +kernel
theorem dX6_leave_1 : decode cX6_leave 1 = .ok (.invokestatic 150, 3) := by decide +kernel
theorem dX6_leave_4 : decode cX6_leave 4 = .ok (.ifCond .eq 12, 3) := by decide +kernel
theorem dX6_leave_7 : decode cX6_leave 7 = .ok (.iload_n 2, 1) := by decide +kernel
theorem dX6_leave_8 : decode cX6_leave 8 = .ok (.iconst 0, 1) := by decide +kernel
theorem dX6_leave_9 : decode cX6_leave 9 = .ok (.iconst 1, 1) := by decide +kernel
theorem dX6_leave_10 : decode cX6_leave 10 = .ok (.invokestatic 75, 3) := by decide +kernel
theorem dX6_leave_13 : decode cX6_leave 13 = .ok (.ifCond .ne 6, 3) := by decide +kernel
theorem dX6_leave_16 : decode cX6_leave 16 = .ok (.ldc 171, 2) := by decide +kernel
theorem dX6_leave_18 : decode cX6_leave 18 = .ok (.ireturn, 1) := by decide +kernel
theorem dX6_leave_19 : decode cX6_leave 19 = .ok (.aload_n 0, 1) := by decide +kernel
theorem dX6_leave_20 : decode cX6_leave 20 = .ok (.invokevirtual 100, 3) := by decide +kernel
theorem dX6_leave_23 : decode cX6_leave 23 = .ok (.astore_n 3, 1) := by decide +kernel
theorem dX6_leave_24 : decode cX6_leave 24 = .ok (.iconst (-1), 1) := by decide +kernel
theorem dX6_leave_25 : decode cX6_leave 25 = .ok (.istore 4, 2) := by decide +kernel
theorem dX6_leave_27 : decode cX6_leave 27 = .ok (.ldc 171, 2) := by decide +kernel
theorem dX6_leave_29 : decode cX6_leave 29 = .ok (.istore 5, 2) := by decide +kernel
theorem dX6_leave_31 : decode cX6_leave 31 = .ok (.iconst 0, 1) := by decide +kernel
theorem dX6_leave_32 : decode cX6_leave 32 = .ok (.istore 6, 2) := by decide +kernel
theorem dX6_leave_34 : decode cX6_leave 34 = .ok (.iload 6, 2) := by decide +kernel
theorem dX6_leave_36 : decode cX6_leave 36 = .ok (.aload_n 3, 1) := by decide +kernel
theorem dX6_leave_37 : decode cX6_leave 37 = .ok (.getfield 187, 3) := by decide +kernel
theorem dX6_leave_40 : decode cX6_leave 40 = .ok (.if_icmp .ge 64, 3) := by decide +kernel
theorem dX6_leave_43 : decode cX6_leave 43 = .ok (.aload_n 0, 1) := by decide +kernel
theorem dX6_leave_44 : decode cX6_leave 44 = .ok (.getfield 53, 3) := by decide +kernel
theorem dX6_leave_47 : decode cX6_leave 47 = .ok (.aload_n 3, 1) := by decide +kernel
theorem dX6_leave_48 : decode cX6_leave 48 = .ok (.invokevirtual 190, 3) := by decide +kernel
theorem dX6_leave_51 : decode cX6_leave 51 = .ok (.aload_n 0, 1) := by decide +kernel
theorem dX6_leave_52 : decode cX6_leave 52 = .ok (.getfield 53, 3) := by decide +kernel
theorem dX6_leave_55 : decode cX6_leave 55 = .ok (.iload_n 1, 1) := by decide +kernel
theorem dX6_leave_56 : decode cX6_leave 56 = .ok (.iload 6, 2) := by decide +kernel
theorem dX6_leave_58 : decode cX6_leave 58 = .ok (.invokevirtual 194, 3) := by decide +kernel
theorem dX6_leave_61 : decode cX6_leave 61 = .ok (.aload_n 0, 1) := by decide +kernel
theorem dX6_leave_62 : decode cX6_leave 62 = .ok (.getfield 53, 3) := by decide +kernel
theorem dX6_leave_65 : decode cX6_leave 65 = .ok (.invokevirtual 198, 3) := by decide +kernel
theorem dX6_leave_68 : decode cX6_leave 68 = .ok (.aload_n 0, 1) := by decide +kernel
theorem dX6_leave_69 : decode cX6_leave 69 = .ok (.getfield 53, 3) := by decide +kernel
theorem dX6_leave_72 : decode cX6_leave 72 = .ok (.invokevirtual 184, 3) := by decide +kernel
theorem dX6_leave_75 : decode cX6_leave 75 = .ok (.istore 7, 2) := by decide +kernel
theorem dX6_leave_77 : decode cX6_leave 77 = .ok (.iload 4, 2) := by decide +kernel
theorem dX6_leave_79 : decode cX6_leave 79 = .ok (.iconst (-1), 1) := by decide +kernel
theorem dX6_leave_80 : decode cX6_leave 80 = .ok (.if_icmp .eq 10, 3) := by decide +kernel
theorem dX6_leave_83 : decode cX6_leave 83 = .ok (.iload 7, 2) := by decide +kernel
theorem dX6_leave_85 : decode cX6_leave 85 = .ok (.iload 5, 2) := by decide +kernel
theorem dX6_leave_87 : decode cX6_leave 87 = .ok (.if_icmp .le 11, 3) := by decide +kernel
theorem dX6_leave_90 : decode cX6_leave 90 = .ok (.iload 6, 2) := by decide +kernel
theorem dX6_leave_92 : decode cX6_leave 92 = .ok (.istore 4, 2) := by decide +kernel
theorem dX6_leave_94 : decode cX6_leave 94 = .ok (.iload 7, 2) := by decide +kernel
theorem dX6_leave_96 : decode cX6_leave 96 = .ok (.istore 5, 2) := by decide +kernel
theorem dX6_leave_98 : decode cX6_leave 98 = .ok (.iinc 6 1, 3) := by decide +kernel
theorem dX6_leave_101 : decode cX6_leave 101 = .ok (.goto (-67), 3) := by decide +kernel
theorem dX6_leave_104 : decode cX6_leave 104 = .ok (.iload 4, 2) := by decide +kernel
theorem dX6_leave_106 : decode cX6_leave 106 = .ok (.iconst (-1), 1) := by decide +kernel
theorem dX6_leave_107 : decode cX6_leave 107 = .ok (.if_icmp .ne 6, 3) := by decide +kernel
theorem dX6_leave_110 : decode cX6_leave 110 = .ok (.ldc 201, 2) := by decide +kernel
theorem dX6_leave_112 : decode cX6_leave 112 = .ok (.ireturn, 1) := by decide +kernel
theorem dX6_leave_113 : decode cX6_leave 113 = .ok (.iload_n 2, 1) := by decide +kernel
theorem dX6_leave_114 : decode cX6_leave 114 = .ok (.ifCond .ne 8, 3) := by decide +kernel
theorem dX6_leave_117 : decode cX6_leave 117 = .ok (.iload 4, 2) := by decide +kernel
theorem dX6_leave_119 : decode cX6_leave 119 = .ok (.goto 5, 3) := by decide +kernel
theorem dX6_leave_122 : decode cX6_leave 122 = .ok (.iload 5, 2) := by decide +kernel
theorem dX6_leave_124 : decode cX6_leave 124 = .ok (.ireturn, 1) := by decide +kernel
theorem dX6_begin_0 : decode cX6_begin 0 = .ok (.aload_n 0, 1) := by decide +kernel
theorem dX6_begin_1 : decode cX6_begin 1 = .ok (.invokevirtual 100, 3) := by decide +kernel
theorem dX6_begin_4 : decode cX6_begin 4 = .ok (.astore_n 3, 1) := by decide +kernel
theorem dX6_begin_5 : decode cX6_begin 5 = .ok (.aload_n 3, 1) := by decide +kernel
theorem dX6_begin_6 : decode cX6_begin 6 = .ok (.iload_n 1, 1) := by decide +kernel
theorem dX6_begin_7 : decode cX6_begin 7 = .ok (.invokevirtual 119, 3) := by decide +kernel
theorem dX6_begin_10 : decode cX6_begin 10 = .ok (.ifCond .eq 12, 3) := by decide +kernel
theorem dX6_begin_13 : decode cX6_begin 13 = .ok (.iload_n 2, 1) := by decide +kernel
theorem dX6_begin_14 : decode cX6_begin 14 = .ok (.iconst 0, 1) := by decide +kernel
theorem dX6_begin_15 : decode cX6_begin 15 = .ok (.iconst 1, 1) := by decide +kernel
theorem dX6_begin_16 : decode cX6_begin 16 = .ok (.invokestatic 75, 3) := by decide +kernel
theorem dX6_begin_19 : decode cX6_begin 19 = .ok (.ifCond .ne 6, 3) := by decide +kernel
theorem dX6_begin_22 : decode cX6_begin 22 = .ok (.bipush (-2), 2) := by decide +kernel
theorem dX6_begin_24 : decode cX6_begin 24 = .ok (.ireturn, 1) := by decide +kernel
theorem dX6_begin_25 : decode cX6_begin 25 = .ok (.aload_n 0, 1) := by decide +kernel
theorem dX6_begin_26 : decode cX6_begin 26 = .ok (.getfield 53, 3) := by decide +kernel
theorem dX6_begin_29 : decode cX6_begin 29 = .ok (.aload_n 3, 1) := by decide +kernel
theorem dX6_begin_30 : decode cX6_begin 30 = .ok (.invokevirtual 190, 3) := by decide +kernel
theorem dX6_begin_33 : decode cX6_begin 33 = .ok (.iconst (-1), 1) := by decide +kernel
theorem dX6_begin_34 : decode cX6_begin 34 = .ok (.istore 4, 2) := by decide +kernel
theorem dX6_begin_36 : decode cX6_begin 36 = .ok (.iconst (-1), 1) := by decide +kernel
theorem dX6_begin_37 : decode cX6_begin 37 = .ok (.istore 5, 2) := by decide +kernel
theorem dX6_begin_39 : decode cX6_begin 39 = .ok (.iconst 0, 1) := by decide +kernel
theorem dX6_begin_40 : decode cX6_begin 40 = .ok (.istore 6, 2) := by decide +kernel
theorem dX6_begin_42 : decode cX6_begin 42 = .ok (.iload 6, 2) := by decide +kernel
theorem dX6_begin_44 : decode cX6_begin 44 = .ok (.bipush 24, 2) := by decide +kernel
theorem dX6_begin_46 : decode cX6_begin 46 = .ok (.if_icmp .ge 54, 3) := by decide +kernel
theorem dX6_begin_49 : decode cX6_begin 49 = .ok (.aload_n 0, 1) := by decide +kernel
theorem dX6_begin_50 : decode cX6_begin 50 = .ok (.getfield 53, 3) := by decide +kernel
theorem dX6_begin_53 : decode cX6_begin 53 = .ok (.getfield 125, 3) := by decide +kernel
theorem dX6_begin_56 : decode cX6_begin 56 = .ok (.iload_n 1, 1) := by decide +kernel
theorem dX6_begin_57 : decode cX6_begin 57 = .ok (.iload 6, 2) := by decide +kernel
theorem dX6_begin_59 : decode cX6_begin 59 = .ok (.iastore, 1) := by decide +kernel
theorem dX6_begin_60 : decode cX6_begin 60 = .ok (.aload_n 0, 1) := by decide +kernel
theorem dX6_begin_61 : decode cX6_begin 61 = .ok (.getfield 53, 3) := by decide +kernel
theorem dX6_begin_64 : decode cX6_begin 64 = .ok (.invokevirtual 198, 3) := by decide +kernel
theorem dX6_begin_67 : decode cX6_begin 67 = .ok (.aload_n 0, 1) := by decide +kernel
theorem dX6_begin_68 : decode cX6_begin 68 = .ok (.getfield 53, 3) := by decide +kernel
theorem dX6_begin_71 : decode cX6_begin 71 = .ok (.invokevirtual 202, 3) := by decide +kernel
theorem dX6_begin_74 : decode cX6_begin 74 = .ok (.invokestatic 205, 3) := by decide +kernel
theorem dX6_begin_77 : decode cX6_begin 77 = .ok (.istore 7, 2) := by decide +kernel
theorem dX6_begin_79 : decode cX6_begin 79 = .ok (.iload 7, 2) := by decide +kernel
theorem dX6_begin_81 : decode cX6_begin 81 = .ok (.iload 5, 2) := by decide +kernel
theorem dX6_begin_83 : decode cX6_begin 83 = .ok (.if_icmp .le 11, 3) := by decide +kernel
theorem dX6_begin_86 : decode cX6_begin 86 = .ok (.iload 6, 2) := by decide +kernel
theorem dX6_begin_88 : decode cX6_begin 88 = .ok (.istore 4, 2) := by decide +kernel
theorem dX6_begin_90 : decode cX6_begin 90 = .ok (.iload 7, 2) := by decide +kernel
theorem dX6_begin_92 : decode cX6_begin 92 = .ok (.istore 5, 2) := by decide +kernel
theorem dX6_begin_94 : decode cX6_begin 94 = .ok (.iinc 6 1, 3) := by decide +kernel
theorem dX6_begin_97 : decode cX6_begin 97 = .ok (.goto (-55), 3) := by decide +kernel
theorem dX6_begin_100 : decode cX6_begin 100 = .ok (.iload_n 2, 1) := by decide +kernel
theorem dX6_begin_101 : decode cX6_begin 101 = .ok (.ifCond .ne 8, 3) := by decide +kernel
theorem dX6_begin_104 : decode cX6_begin 104 = .ok (.iload 4, 2) := by decide +kernel
theorem dX6_begin_106 : decode cX6_begin 106 = .ok (.goto 5, 3) := by decide +kernel
theorem dX6_begin_109 : decode cX6_begin 109 = .ok (.iload 5, 2) := by decide +kernel
theorem dX6_begin_111 : decode cX6_begin 111 = .ok (.ireturn, 1) := by decide +kernel
theorem dX6_patience_0 : decode cX6_patience 0 = .ok (.aload_n 0, 1) := by decide +kernel
theorem dX6_patience_1 : decode cX6_patience 1 = .ok (.invokevirtual 100, 3) := by decide +kernel
theorem dX6_patience_4 : decode cX6_patience 4 = .ok (.astore_n 2, 1) := by decide +kernel
theorem dX6_patience_5 : decode cX6_patience 5 = .ok (.aload_n 2, 1) := by decide +kernel
theorem dX6_patience_6 : decode cX6_patience 6 = .ok (.iload_n 1, 1) := by decide +kernel
theorem dX6_patience_7 : decode cX6_patience 7 = .ok (.invokevirtual 104, 3) := by decide +kernel
theorem dX6_patience_10 : decode cX6_patience 10 = .ok (.ifCond .ne 6, 3) := by decide +kernel
theorem dX6_patience_13 : decode cX6_patience 13 = .ok (.bipush (-2), 2) := by decide +kernel
theorem dX6_patience_15 : decode cX6_patience 15 = .ok (.ireturn, 1) := by decide +kernel
theorem dX6_patience_16 : decode cX6_patience 16 = .ok (.aload_n 0, 1) := by decide +kernel
theorem dX6_patience_17 : decode cX6_patience 17 = .ok (.getfield 53, 3) := by decide +kernel
theorem dX6_patience_20 : decode cX6_patience 20 = .ok (.aload_n 2, 1) := by decide +kernel
theorem dX6_patience_21 : decode cX6_patience 21 = .ok (.invokevirtual 190, 3) := by decide +kernel
theorem dX6_patience_24 : decode cX6_patience 24 = .ok (.iconst 1, 1) := by decide +kernel
theorem dX6_patience_25 : decode cX6_patience 25 = .ok (.istore_n 3, 1) := by decide +kernel
theorem dX6_patience_26 : decode cX6_patience 26 = .ok (.iload_n 3, 1) := by decide +kernel
theorem dX6_patience_27 : decode cX6_patience 27 = .ok (.bipush 9, 2) := by decide +kernel
theorem dX6_patience_29 : decode cX6_patience 29 = .ok (.if_icmp .gt 41, 3) := by decide +kernel
theorem dX6_patience_32 : decode cX6_patience 32 = .ok (.aload_n 0, 1) := by decide +kernel
theorem dX6_patience_33 : decode cX6_patience 33 = .ok (.getfield 53, 3) := by decide +kernel
theorem dX6_patience_36 : decode cX6_patience 36 = .ok (.getfield 110, 3) := by decide +kernel
theorem dX6_patience_39 : decode cX6_patience 39 = .ok (.iload_n 1, 1) := by decide +kernel
theorem dX6_patience_40 : decode cX6_patience 40 = .ok (.iload_n 3, 1) := by decide +kernel
theorem dX6_patience_41 : decode cX6_patience 41 = .ok (.iastore, 1) := by decide +kernel
theorem dX6_patience_42 : decode cX6_patience 42 = .ok (.aload_n 0, 1) := by decide +kernel
theorem dX6_patience_43 : decode cX6_patience 43 = .ok (.getfield 53, 3) := by decide +kernel
theorem dX6_patience_46 : decode cX6_patience 46 = .ok (.invokevirtual 198, 3) := by decide +kernel
theorem dX6_patience_49 : decode cX6_patience 49 = .ok (.aload_n 0, 1) := by decide +kernel
theorem dX6_patience_50 : decode cX6_patience 50 = .ok (.getfield 53, 3) := by decide +kernel
theorem dX6_patience_53 : decode cX6_patience 53 = .ok (.getfield 175, 3) := by decide +kernel
theorem dX6_patience_56 : decode cX6_patience 56 = .ok (.iload_n 1, 1) := by decide +kernel
theorem dX6_patience_57 : decode cX6_patience 57 = .ok (.iaload, 1) := by decide +kernel
theorem dX6_patience_58 : decode cX6_patience 58 = .ok (.iconst (-1), 1) := by decide +kernel
theorem dX6_patience_59 : decode cX6_patience 59 = .ok (.if_icmp .eq 5, 3) := by decide +kernel
theorem dX6_patience_62 : decode cX6_patience 62 = .ok (.iload_n 3, 1) := by decide +kernel
theorem dX6_patience_63 : decode cX6_patience 63 = .ok (.ireturn, 1) := by decide +kernel
theorem dX6_patience_64 : decode cX6_patience 64 = .ok (.iinc 3 1, 3) := by decide +kernel
theorem dX6_patience_67 : decode cX6_patience 67 = .ok (.goto (-41), 3) := by decide +kernel
theorem dX6_patience_70 : decode cX6_patience 70 = .ok (.iconst (-1), 1) := by decide +kernel
theorem dX6_patience_71 : decode cX6_patience 71 = .ok (.ireturn, 1) := by decide +kernel
theorem dX6_burn_0 : decode cX6_burn 0 = .ok (.iload_n 1, 1) := by decide +kernel
theorem dX6_burn_1 : decode cX6_burn 1 = .ok (.iconst (-1), 1) := by decide +kernel
theorem dX6_burn_2 : decode cX6_burn 2 = .ok (.iconst 1, 1) := by decide +kernel
theorem dX6_burn_3 : decode cX6_burn 3 = .ok (.invokestatic 75, 3) := by decide +kernel
theorem dX6_burn_6 : decode cX6_burn 6 = .ok (.ifCond .ne 6, 3) := by decide +kernel
theorem dX6_burn_9 : decode cX6_burn 9 = .ok (.bipush (-2), 2) := by decide +kernel
theorem dX6_burn_11 : decode cX6_burn 11 = .ok (.ireturn, 1) := by decide +kernel
theorem dX6_burn_12 : decode cX6_burn 12 = .ok (.aload_n 0, 1) := by decide +kernel
theorem dX6_burn_13 : decode cX6_burn 13 = .ok (.aload_n 0, 1) := by decide +kernel
theorem dX6_burn_14 : decode cX6_burn 14 = .ok (.invokevirtual 100, 3) := by decide +kernel
theorem dX6_burn_17 : decode cX6_burn 17 = .ok (.invokevirtual 210, 3) := by decide +kernel
theorem dX6_burn_20 : decode cX6_burn 20 = .ok (.istore_n 2, 1) := by decide +kernel
theorem dX6_burn_21 : decode cX6_burn 21 = .ok (.iload_n 2, 1) := by decide +kernel
theorem dX6_burn_22 : decode cX6_burn 22 = .ok (.iconst (-1), 1) := by decide +kernel
theorem dX6_burn_23 : decode cX6_burn 23 = .ok (.if_icmp .ne 5, 3) := by decide +kernel
theorem dX6_burn_26 : decode cX6_burn 26 = .ok (.iconst (-1), 1) := by decide +kernel
theorem dX6_burn_27 : decode cX6_burn 27 = .ok (.ireturn, 1) := by decide +kernel
theorem dX6_burn_28 : decode cX6_burn 28 = .ok (.iload_n 1, 1) := by decide +kernel
theorem dX6_burn_29 : decode cX6_burn 29 = .ok (.iconst (-1), 1) := by decide +kernel
theorem dX6_burn_30 : decode cX6_burn 30 = .ok (.if_icmp .ne 10, 3) := by decide +kernel
theorem dX6_burn_33 : decode cX6_burn 33 = .ok (.iload_n 2, 1) := by decide +kernel
theorem dX6_burn_34 : decode cX6_burn 34 = .ok (.invokestatic 205, 3) := by decide +kernel
theorem dX6_burn_37 : decode cX6_burn 37 = .ok (.goto 8, 3) := by decide +kernel
theorem dX6_burn_40 : decode cX6_burn 40 = .ok (.iload_n 2, 1) := by decide +kernel
theorem dX6_burn_41 : decode cX6_burn 41 = .ok (.iload_n 1, 1) := by decide +kernel
theorem dX6_burn_42 : decode cX6_burn 42 = .ok (.invokestatic 214, 3) := by decide +kernel
theorem dX6_burn_45 : decode cX6_burn 45 = .ok (.ireturn, 1) := by decide +kernel
theorem dX6_feel_0 : decode cX6_feel 0 = .ok (.iload_n 1, 1) := by decide +kernel
theorem dX6_feel_1 : decode cX6_feel 1 = .ok (.invokestatic 150, 3) := by decide +kernel
theorem dX6_feel_4 : decode cX6_feel 4 = .ok (.ifCond .eq 14, 3) := by decide +kernel
theorem dX6_feel_7 : decode cX6_feel 7 = .ok (.iload_n 2, 1) := by decide +kernel
theorem dX6_feel_8 : decode cX6_feel 8 = .ok (.bipush (-40), 2) := by decide +kernel
theorem dX6_feel_10 : decode cX6_feel 10 = .ok (.bipush 40, 2) := by decide +kernel
theorem dX6_feel_12 : decode cX6_feel 12 = .ok (.invokestatic 75, 3) := by decide +kernel
theorem dX6_feel_15 : decode cX6_feel 15 = .ok (.ifCond .ne 6, 3) := by decide +kernel
theorem dX6_feel_18 : decode cX6_feel 18 = .ok (.bipush (-2), 2) := by decide +kernel
theorem dX6_feel_20 : decode cX6_feel 20 = .ok (.ireturn, 1) := by decide +kernel
theorem dX6_feel_21 : decode cX6_feel 21 = .ok (.aload_n 0, 1) := by decide +kernel
theorem dX6_feel_22 : decode cX6_feel 22 = .ok (.getfield 35, 3) := by decide +kernel
theorem dX6_feel_25 : decode cX6_feel 25 = .ok (.getfield 217, 3) := by decide +kernel
theorem dX6_feel_28 : decode cX6_feel 28 = .ok (.bipush 8, 2) := by decide +kernel
theorem dX6_feel_30 : decode cX6_feel 30 = .ok (.if_icmp .ge 15, 3) := by decide +kernel
theorem dX6_feel_33 : decode cX6_feel 33 = .ok (.aload_n 0, 1) := by decide +kernel
theorem dX6_feel_34 : decode cX6_feel 34 = .ok (.getfield 35, 3) := by decide +kernel
theorem dX6_feel_37 : decode cX6_feel 37 = .ok (.iload_n 1, 1) := by decide +kernel
theorem dX6_feel_38 : decode cX6_feel 38 = .ok (.iload_n 2, 1) := by decide +kernel
theorem dX6_feel_39 : decode cX6_feel 39 = .ok (.invokevirtual 218, 3) := by decide +kernel
theorem dX6_feel_42 : decode cX6_feel 42 = .ok (.goto 5, 3) := by decide +kernel
theorem dX6_feel_45 : decode cX6_feel 45 = .ok (.bipush (-4), 2) := by decide +kernel
theorem dX6_feel_47 : decode cX6_feel 47 = .ok (.ireturn, 1) := by decide +kernel
theorem dX6_forget_0 : decode cX6_forget 0 = .ok (.aload_n 0, 1) := by decide +kernel
theorem dX6_forget_1 : decode cX6_forget 1 = .ok (.getfield 35, 3) := by decide +kernel
theorem dX6_forget_4 : decode cX6_forget 4 = .ok (.invokevirtual 220, 3) := by decide +kernel
theorem dX6_forget_7 : decode cX6_forget 7 = .ok (.ireturn, 1) := by decide +kernel
theorem dX6_never_0 : decode cX6_never 0 = .ok (.aload_n 0, 1) := by decide +kernel
theorem dX6_never_1 : decode cX6_never 1 = .ok (.getfield 53, 3) := by decide +kernel
theorem dX6_never_4 : decode cX6_never 4 = .ok (.aload_n 0, 1) := by decide +kernel
theorem dX6_never_5 : decode cX6_never 5 = .ok (.invokevirtual 100, 3) := by decide +kernel
theorem dX6_never_8 : decode cX6_never 8 = .ok (.invokevirtual 190, 3) := by decide +kernel
theorem dX6_never_11 : decode cX6_never 11 = .ok (.iconst 0, 1) := by decide +kernel
theorem dX6_never_12 : decode cX6_never 12 = .ok (.istore_n 1, 1) := by decide +kernel
theorem dX6_never_13 : decode cX6_never 13 = .ok (.iconst 0, 1) := by decide +kernel
theorem dX6_never_14 : decode cX6_never 14 = .ok (.istore_n 2, 1) := by decide +kernel
theorem dX6_never_15 : decode cX6_never 15 = .ok (.iload_n 2, 1) := by decide +kernel
theorem dX6_never_16 : decode cX6_never 16 = .ok (.aload_n 0, 1) := by decide +kernel
theorem dX6_never_17 : decode cX6_never 17 = .ok (.getfield 28, 3) := by decide +kernel
theorem dX6_never_20 : decode cX6_never 20 = .ok (.getfield 135, 3) := by decide +kernel
theorem dX6_never_23 : decode cX6_never 23 = .ok (.if_icmp .ge 50, 3) := by decide +kernel
theorem dX6_never_26 : decode cX6_never 26 = .ok (.aload_n 0, 1) := by decide +kernel
theorem dX6_never_27 : decode cX6_never 27 = .ok (.getfield 28, 3) := by decide +kernel
theorem dX6_never_30 : decode cX6_never 30 = .ok (.iconst 1, 1) := by decide +kernel
theorem dX6_never_31 : decode cX6_never 31 = .ok (.iload_n 2, 1) := by decide +kernel
theorem dX6_never_32 : decode cX6_never 32 = .ok (.ishl, 1) := by decide +kernel
theorem dX6_never_33 : decode cX6_never 33 = .ok (.aload_n 0, 1) := by decide +kernel
theorem dX6_never_34 : decode cX6_never 34 = .ok (.getfield 53, 3) := by decide +kernel
theorem dX6_never_37 : decode cX6_never 37 = .ok (.invokevirtual 221, 3) := by decide +kernel
theorem dX6_never_40 : decode cX6_never 40 = .ok (.aload_n 0, 1) := by decide +kernel
theorem dX6_never_41 : decode cX6_never 41 = .ok (.getfield 53, 3) := by decide +kernel
theorem dX6_never_44 : decode cX6_never 44 = .ok (.invokevirtual 198, 3) := by decide +kernel
theorem dX6_never_47 : decode cX6_never 47 = .ok (.aload_n 0, 1) := by decide +kernel
theorem dX6_never_48 : decode cX6_never 48 = .ok (.getfield 35, 3) := by decide +kernel
theorem dX6_never_51 : decode cX6_never 51 = .ok (.aload_n 0, 1) := by decide +kernel
theorem dX6_never_52 : decode cX6_never 52 = .ok (.getfield 53, 3) := by decide +kernel
theorem dX6_never_55 : decode cX6_never 55 = .ok (.invokevirtual 225, 3) := by decide +kernel
theorem dX6_never_58 : decode cX6_never 58 = .ok (.ifCond .eq 9, 3) := by decide +kernel
theorem dX6_never_61 : decode cX6_never 61 = .ok (.iload_n 1, 1) := by decide +kernel
theorem dX6_never_62 : decode cX6_never 62 = .ok (.iconst 1, 1) := by decide +kernel
theorem dX6_never_63 : decode cX6_never 63 = .ok (.iload_n 2, 1) := by decide +kernel
theorem dX6_never_64 : decode cX6_never 64 = .ok (.ishl, 1) := by decide +kernel
theorem dX6_never_65 : decode cX6_never 65 = .ok (.ior, 1) := by decide +kernel
theorem dX6_never_66 : decode cX6_never 66 = .ok (.istore_n 1, 1) := by decide +kernel
theorem dX6_never_67 : decode cX6_never 67 = .ok (.iinc 2 1, 3) := by decide +kernel
theorem dX6_never_70 : decode cX6_never 70 = .ok (.goto (-55), 3) := by decide +kernel
theorem dX6_never_73 : decode cX6_never 73 = .ok (.iload_n 1, 1) := by decide +kernel
theorem dX6_never_74 : decode cX6_never 74 = .ok (.ireturn, 1) := by decide +kernel
theorem dX6_was_0 : decode cX6_was 0 = .ok (.aload_n 0, 1) := by decide +kernel
theorem dX6_was_1 : decode cX6_was 1 = .ok (.invokevirtual 100, 3) := by decide +kernel
theorem dX6_was_4 : decode cX6_was 4 = .ok (.astore_n 3, 1) := by decide +kernel
theorem dX6_was_5 : decode cX6_was 5 = .ok (.aload_n 3, 1) := by decide +kernel
theorem dX6_was_6 : decode cX6_was 6 = .ok (.iload_n 1, 1) := by decide +kernel
theorem dX6_was_7 : decode cX6_was 7 = .ok (.invokevirtual 104, 3) := by decide +kernel
theorem dX6_was_10 : decode cX6_was 10 = .ok (.ifCond .eq 12, 3) := by decide +kernel
theorem dX6_was_13 : decode cX6_was 13 = .ok (.iload_n 2, 1) := by decide +kernel
theorem dX6_was_14 : decode cX6_was 14 = .ok (.iconst 0, 1) := by decide +kernel
theorem dX6_was_15 : decode cX6_was 15 = .ok (.iconst 1, 1) := by decide +kernel
theorem dX6_was_16 : decode cX6_was 16 = .ok (.invokestatic 75, 3) := by decide +kernel
theorem dX6_was_19 : decode cX6_was 19 = .ok (.ifCond .ne 6, 3) := by decide +kernel
theorem dX6_was_22 : decode cX6_was 22 = .ok (.bipush (-2), 2) := by decide +kernel
theorem dX6_was_24 : decode cX6_was 24 = .ok (.ireturn, 1) := by decide +kernel
theorem dX6_was_25 : decode cX6_was 25 = .ok (.aload_n 0, 1) := by decide +kernel
theorem dX6_was_26 : decode cX6_was 26 = .ok (.getfield 53, 3) := by decide +kernel
theorem dX6_was_29 : decode cX6_was 29 = .ok (.aload_n 3, 1) := by decide +kernel
theorem dX6_was_30 : decode cX6_was 30 = .ok (.invokevirtual 190, 3) := by decide +kernel
theorem dX6_was_33 : decode cX6_was 33 = .ok (.iload_n 2, 1) := by decide +kernel
theorem dX6_was_34 : decode cX6_was 34 = .ok (.ifCond .ne 11, 3) := by decide +kernel
theorem dX6_was_37 : decode cX6_was 37 = .ok (.aload_n 0, 1) := by decide +kernel
theorem dX6_was_38 : decode cX6_was 38 = .ok (.iload_n 1, 1) := by decide +kernel
theorem dX6_was_39 : decode cX6_was 39 = .ok (.invokevirtual 229, 3) := by decide +kernel
theorem dX6_was_42 : decode cX6_was 42 = .ok (.goto 8, 3) := by decide +kernel
theorem dX6_was_45 : decode cX6_was 45 = .ok (.aload_n 0, 1) := by decide +kernel
theorem dX6_was_46 : decode cX6_was 46 = .ok (.iload_n 1, 1) := by decide +kernel
theorem dX6_was_47 : decode cX6_was 47 = .ok (.invokevirtual 232, 3) := by decide +kernel
theorem dX6_was_50 : decode cX6_was 50 = .ok (.ireturn, 1) := by decide +kernel
theorem dX6_ask_0 : decode cX6_ask 0 = .ok (.aload_n 0, 1) := by decide +kernel
theorem dX6_ask_1 : decode cX6_ask 1 = .ok (.invokevirtual 100, 3) := by decide +kernel
theorem dX6_ask_4 : decode cX6_ask 4 = .ok (.astore_n 2, 1) := by decide +kernel
theorem dX6_ask_5 : decode cX6_ask 5 = .ok (.aload_n 2, 1) := by decide +kernel
theorem dX6_ask_6 : decode cX6_ask 6 = .ok (.iload_n 1, 1) := by decide +kernel
theorem dX6_ask_7 : decode cX6_ask 7 = .ok (.invokevirtual 104, 3) := by decide +kernel
theorem dX6_ask_10 : decode cX6_ask 10 = .ok (.ifCond .ne 6, 3) := by decide +kernel
theorem dX6_ask_13 : decode cX6_ask 13 = .ok (.bipush (-2), 2) := by decide +kernel
theorem dX6_ask_15 : decode cX6_ask 15 = .ok (.ireturn, 1) := by decide +kernel
theorem dX6_ask_16 : decode cX6_ask 16 = .ok (.aload_n 0, 1) := by decide +kernel
theorem dX6_ask_17 : decode cX6_ask 17 = .ok (.getfield 53, 3) := by decide +kernel
theorem dX6_ask_20 : decode cX6_ask 20 = .ok (.aload_n 2, 1) := by decide +kernel
theorem dX6_ask_21 : decode cX6_ask 21 = .ok (.invokevirtual 190, 3) := by decide +kernel
theorem dX6_ask_24 : decode cX6_ask 24 = .ok (.aload_n 0, 1) := by decide +kernel
theorem dX6_ask_25 : decode cX6_ask 25 = .ok (.getfield 59, 3) := by decide +kernel
theorem dX6_ask_28 : decode cX6_ask 28 = .ok (.aload_n 0, 1) := by decide +kernel
theorem dX6_ask_29 : decode cX6_ask 29 = .ok (.getfield 53, 3) := by decide +kernel
theorem dX6_ask_32 : decode cX6_ask 32 = .ok (.aload_n 0, 1) := by decide +kernel
theorem dX6_ask_33 : decode cX6_ask 33 = .ok (.getfield 35, 3) := by decide +kernel
theorem dX6_ask_36 : decode cX6_ask 36 = .ok (.iload_n 1, 1) := by decide +kernel
theorem dX6_ask_37 : decode cX6_ask 37 = .ok (.invokevirtual 235, 3) := by decide +kernel
theorem dX6_ask_40 : decode cX6_ask 40 = .ok (.istore_n 3, 1) := by decide +kernel
theorem dX6_ask_41 : decode cX6_ask 41 = .ok (.iconst 0, 1) := by decide +kernel
theorem dX6_ask_42 : decode cX6_ask 42 = .ok (.istore 4, 2) := by decide +kernel
theorem dX6_ask_44 : decode cX6_ask 44 = .ok (.aload_n 0, 1) := by decide +kernel
theorem dX6_ask_45 : decode cX6_ask 45 = .ok (.getfield 59, 3) := by decide +kernel
theorem dX6_ask_48 : decode cX6_ask 48 = .ok (.iload_n 3, 1) := by decide +kernel
theorem dX6_ask_49 : decode cX6_ask 49 = .ok (.iconst 0, 1) := by decide +kernel
theorem dX6_ask_50 : decode cX6_ask 50 = .ok (.invokevirtual 239, 3) := by decide +kernel
theorem dX6_ask_53 : decode cX6_ask 53 = .ok (.istore 5, 2) := by decide +kernel
theorem dX6_ask_55 : decode cX6_ask 55 = .ok (.iconst 1, 1) := by decide +kernel
theorem dX6_ask_56 : decode cX6_ask 56 = .ok (.istore 6, 2) := by decide +kernel
theorem dX6_ask_58 : decode cX6_ask 58 = .ok (.iload 6, 2) := by decide +kernel
theorem dX6_ask_60 : decode cX6_ask 60 = .ok (.bipush 24, 2) := by decide +kernel
theorem dX6_ask_62 : decode cX6_ask 62 = .ok (.if_icmp .ge 36, 3) := by decide +kernel
theorem dX6_ask_65 : decode cX6_ask 65 = .ok (.aload_n 0, 1) := by decide +kernel
theorem dX6_ask_66 : decode cX6_ask 66 = .ok (.getfield 59, 3) := by decide +kernel
theorem dX6_ask_69 : decode cX6_ask 69 = .ok (.iload_n 3, 1) := by decide +kernel
theorem dX6_ask_70 : decode cX6_ask 70 = .ok (.iload 6, 2) := by decide +kernel
theorem dX6_ask_72 : decode cX6_ask 72 = .ok (.invokevirtual 239, 3) := by decide +kernel
theorem dX6_ask_75 : decode cX6_ask 75 = .ok (.istore 7, 2) := by decide +kernel
theorem dX6_ask_77 : decode cX6_ask 77 = .ok (.iload 7, 2) := by decide +kernel
theorem dX6_ask_79 : decode cX6_ask 79 = .ok (.iload 5, 2) := by decide +kernel
theorem dX6_ask_81 : decode cX6_ask 81 = .ok (.if_icmp .ge 11, 3) := by decide +kernel
theorem dX6_ask_84 : decode cX6_ask 84 = .ok (.iload 6, 2) := by decide +kernel
theorem dX6_ask_86 : decode cX6_ask 86 = .ok (.istore 4, 2) := by decide +kernel
theorem dX6_ask_88 : decode cX6_ask 88 = .ok (.iload 7, 2) := by decide +kernel
theorem dX6_ask_90 : decode cX6_ask 90 = .ok (.istore 5, 2) := by decide +kernel
theorem dX6_ask_92 : decode cX6_ask 92 = .ok (.iinc 6 1, 3) := by decide +kernel
theorem dX6_ask_95 : decode cX6_ask 95 = .ok (.goto (-37), 3) := by decide +kernel
theorem dX6_ask_98 : decode cX6_ask 98 = .ok (.iload 4, 2) := by decide +kernel
theorem dX6_ask_100 : decode cX6_ask 100 = .ok (.ireturn, 1) := by decide +kernel
theorem dX6_chance_0 : decode cX6_chance 0 = .ok (.aload_n 0, 1) := by decide +kernel
theorem dX6_chance_1 : decode cX6_chance 1 = .ok (.invokevirtual 100, 3) := by decide +kernel
theorem dX6_chance_4 : decode cX6_chance 4 = .ok (.astore 4, 2) := by decide +kernel
theorem dX6_chance_6 : decode cX6_chance 6 = .ok (.iload_n 1, 1) := by decide +kernel
theorem dX6_chance_7 : decode cX6_chance 7 = .ok (.iconst 0, 1) := by decide +kernel
theorem dX6_chance_8 : decode cX6_chance 8 = .ok (.bipush 16, 2) := by decide +kernel
theorem dX6_chance_10 : decode cX6_chance 10 = .ok (.invokestatic 75, 3) := by decide +kernel
theorem dX6_chance_13 : decode cX6_chance 13 = .ok (.ifCond .eq 21, 3) := by decide +kernel
theorem dX6_chance_16 : decode cX6_chance 16 = .ok (.aload 4, 2) := by decide +kernel
theorem dX6_chance_18 : decode cX6_chance 18 = .ok (.iload_n 2, 1) := by decide +kernel
theorem dX6_chance_19 : decode cX6_chance 19 = .ok (.invokevirtual 104, 3) := by decide +kernel
theorem dX6_chance_22 : decode cX6_chance 22 = .ok (.ifCond .eq 12, 3) := by decide +kernel
theorem dX6_chance_25 : decode cX6_chance 25 = .ok (.iload_n 3, 1) := by decide +kernel
theorem dX6_chance_26 : decode cX6_chance 26 = .ok (.iconst 0, 1) := by decide +kernel
theorem dX6_chance_27 : decode cX6_chance 27 = .ok (.iconst 1, 1) := by decide +kernel
theorem dX6_chance_28 : decode cX6_chance 28 = .ok (.invokestatic 75, 3) := by decide +kernel
theorem dX6_chance_31 : decode cX6_chance 31 = .ok (.ifCond .ne 7, 3) := by decide +kernel
theorem dX6_chance_34 : decode cX6_chance 34 = .ok (.ldc2_w 242, 3) := by decide +kernel
theorem dX6_chance_37 : decode cX6_chance 37 = .ok (.lreturn, 1) := by decide +kernel
theorem dX6_chance_38 : decode cX6_chance 38 = .ok (.aload_n 0, 1) := by decide +kernel
theorem dX6_chance_39 : decode cX6_chance 39 = .ok (.getfield 59, 3) := by decide +kernel
theorem dX6_chance_42 : decode cX6_chance 42 = .ok (.getfield 244, 3) := by decide +kernel
theorem dX6_chance_45 : decode cX6_chance 45 = .ok (.ifCond .ne 27, 3) := by decide +kernel
theorem dX6_chance_48 : decode cX6_chance 48 = .ok (.aload_n 0, 1) := by decide +kernel
theorem dX6_chance_49 : decode cX6_chance 49 = .ok (.getfield 53, 3) := by decide +kernel
theorem dX6_chance_52 : decode cX6_chance 52 = .ok (.aload 4, 2) := by decide +kernel
theorem dX6_chance_54 : decode cX6_chance 54 = .ok (.invokevirtual 190, 3) := by decide +kernel
theorem dX6_chance_57 : decode cX6_chance 57 = .ok (.aload_n 0, 1) := by decide +kernel
theorem dX6_chance_58 : decode cX6_chance 58 = .ok (.getfield 59, 3) := by decide +kernel
theorem dX6_chance_61 : decode cX6_chance 61 = .ok (.aload_n 0, 1) := by decide +kernel
theorem dX6_chance_62 : decode cX6_chance 62 = .ok (.getfield 53, 3) := by decide +kernel
theorem dX6_chance_65 : decode cX6_chance 65 = .ok (.aload_n 0, 1) := by decide +kernel
theorem dX6_chance_66 : decode cX6_chance 66 = .ok (.getfield 28, 3) := by decide +kernel
theorem dX6_chance_69 : decode cX6_chance 69 = .ok (.invokevirtual 247, 3) := by decide +kernel
theorem dX6_chance_72 : decode cX6_chance 72 = .ok (.aload_n 0, 1) := by decide +kernel
theorem dX6_chance_73 : decode cX6_chance 73 = .ok (.getfield 59, 3) := by decide +kernel
theorem dX6_chance_76 : decode cX6_chance 76 = .ok (.iload_n 1, 1) := by decide +kernel
theorem dX6_chance_77 : decode cX6_chance 77 = .ok (.iload_n 2, 1) := by decide +kernel
theorem dX6_chance_78 : decode cX6_chance 78 = .ok (.aload_n 0, 1) := by decide +kernel
theorem dX6_chance_79 : decode cX6_chance 79 = .ok (.getfield 28, 3) := by decide +kernel
theorem dX6_chance_82 : decode cX6_chance 82 = .ok (.getfield 135, 3) := by decide +kernel
theorem dX6_chance_85 : decode cX6_chance 85 = .ok (.invokevirtual 251, 3) := by decide +kernel
theorem dX6_chance_88 : decode cX6_chance 88 = .ok (.lstore 5, 2) := by decide +kernel
theorem dX6_chance_90 : decode cX6_chance 90 = .ok (.lconst 1, 1) := by decide +kernel
theorem dX6_chance_91 : decode cX6_chance 91 = .ok (.iconst 4, 1) := by decide +kernel
theorem dX6_chance_92 : decode cX6_chance 92 = .ok (.aload_n 0, 1) := by decide +kernel
theorem dX6_chance_93 : decode cX6_chance 93 = .ok (.getfield 28, 3) := by decide +kernel
theorem dX6_chance_96 : decode cX6_chance 96 = .ok (.getfield 135, 3) := by decide +kernel
theorem dX6_chance_99 : decode cX6_chance 99 = .ok (.imul, 1) := by decide +kernel
theorem dX6_chance_100 : decode cX6_chance 100 = .ok (.lshl, 1) := by decide +kernel
theorem dX6_chance_101 : decode cX6_chance 101 = .ok (.lstore 7, 2) := by decide +kernel
theorem dX6_chance_103 : decode cX6_chance 103 = .ok (.iconst 0, 1) := by decide +kernel
theorem dX6_chance_104 : decode cX6_chance 104 = .ok (.istore 9, 2) := by decide +kernel
theorem dX6_chance_106 : decode cX6_chance 106 = .ok (.iload 9, 2) := by decide +kernel
theorem dX6_chance_108 : decode cX6_chance 108 = .ok (.iconst 4, 1) := by decide +kernel
theorem dX6_chance_109 : decode cX6_chance 109 = .ok (.aload_n 0, 1) := by decide +kernel
theorem dX6_chance_110 : decode cX6_chance 110 = .ok (.getfield 28, 3) := by decide +kernel
theorem dX6_chance_113 : decode cX6_chance 113 = .ok (.getfield 135, 3) := by decide +kernel
theorem dX6_chance_116 : decode cX6_chance 116 = .ok (.imul, 1) := by decide +kernel
theorem dX6_chance_117 : decode cX6_chance 117 = .ok (.if_icmp .ge 36, 3) := by decide +kernel
theorem dX6_chance_120 : decode cX6_chance 120 = .ok (.lload 5, 2) := by decide +kernel
theorem dX6_chance_122 : decode cX6_chance 122 = .ok (.ldc2_w 255, 3) := by decide +kernel
theorem dX6_chance_125 : decode cX6_chance 125 = .ok (.lrem, 1) := by decide +kernel
theorem dX6_chance_126 : decode cX6_chance 126 = .ok (.lconst 0, 1) := by decide +kernel
theorem dX6_chance_127 : decode cX6_chance 127 = .ok (.lcmp, 1) := by decide +kernel
theorem dX6_chance_128 : decode cX6_chance 128 = .ok (.ifCond .ne 25, 3) := by decide +kernel
theorem dX6_chance_131 : decode cX6_chance 131 = .ok (.lload 5, 2) := by decide +kernel
theorem dX6_chance_133 : decode cX6_chance 133 = .ok (.ldc2_w 255, 3) := by decide +kernel
theorem dX6_chance_136 : decode cX6_chance 136 = .ok (.ldiv, 1) := by decide +kernel
theorem dX6_chance_137 : decode cX6_chance 137 = .ok (.lstore 5, 2) := by decide +kernel
theorem dX6_chance_139 : decode cX6_chance 139 = .ok (.lload 7, 2) := by decide +kernel
theorem dX6_chance_141 : decode cX6_chance 141 = .ok (.ldc2_w 255, 3) := by decide +kernel
theorem dX6_chance_144 : decode cX6_chance 144 = .ok (.ldiv, 1) := by decide +kernel
theorem dX6_chance_145 : decode cX6_chance 145 = .ok (.lstore 7, 2) := by decide +kernel
theorem dX6_chance_147 : decode cX6_chance 147 = .ok (.iinc 9 1, 3) := by decide +kernel
theorem dX6_chance_150 : decode cX6_chance 150 = .ok (.goto (-44), 3) := by decide +kernel
theorem dX6_chance_153 : decode cX6_chance 153 = .ok (.iload_n 3, 1) := by decide +kernel
theorem dX6_chance_154 : decode cX6_chance 154 = .ok (.ifCond .ne 8, 3) := by decide +kernel
theorem dX6_chance_157 : decode cX6_chance 157 = .ok (.lload 5, 2) := by decide +kernel
theorem dX6_chance_159 : decode cX6_chance 159 = .ok (.goto 5, 3) := by decide +kernel
theorem dX6_chance_162 : decode cX6_chance 162 = .ok (.lload 7, 2) := by decide +kernel
theorem dX6_chance_164 : decode cX6_chance 164 = .ok (.lreturn, 1) := by decide +kernel
theorem dX6_years_0 : decode cX6_years 0 = .ok (.iload_n 2, 1) := by decide +kernel
theorem dX6_years_1 : decode cX6_years 1 = .ok (.iconst 0, 1) := by decide +kernel
theorem dX6_years_2 : decode cX6_years 2 = .ok (.bipush 8, 2) := by decide +kernel
theorem dX6_years_4 : decode cX6_years 4 = .ok (.invokestatic 75, 3) := by decide +kernel
theorem dX6_years_7 : decode cX6_years 7 = .ok (.ifCond .eq 12, 3) := by decide +kernel
theorem dX6_years_10 : decode cX6_years 10 = .ok (.iload_n 3, 1) := by decide +kernel
theorem dX6_years_11 : decode cX6_years 11 = .ok (.iconst 0, 1) := by decide +kernel
theorem dX6_years_12 : decode cX6_years 12 = .ok (.iconst 1, 1) := by decide +kernel
theorem dX6_years_13 : decode cX6_years 13 = .ok (.invokestatic 75, 3) := by decide +kernel
theorem dX6_years_16 : decode cX6_years 16 = .ok (.ifCond .ne 6, 3) := by decide +kernel
theorem dX6_years_19 : decode cX6_years 19 = .ok (.ldc 171, 2) := by decide +kernel
theorem dX6_years_21 : decode cX6_years 21 = .ok (.ireturn, 1) := by decide +kernel
theorem dX6_years_22 : decode cX6_years 22 = .ok (.aload_n 0, 1) := by decide +kernel
theorem dX6_years_23 : decode cX6_years 23 = .ok (.getfield 53, 3) := by decide +kernel
theorem dX6_years_26 : decode cX6_years 26 = .ok (.aload_n 0, 1) := by decide +kernel
theorem dX6_years_27 : decode cX6_years 27 = .ok (.invokevirtual 100, 3) := by decide +kernel
theorem dX6_years_30 : decode cX6_years 30 = .ok (.invokevirtual 190, 3) := by decide +kernel
theorem dX6_years_33 : decode cX6_years 33 = .ok (.aload_n 0, 1) := by decide +kernel
theorem dX6_years_34 : decode cX6_years 34 = .ok (.getfield 53, 3) := by decide +kernel
theorem dX6_years_37 : decode cX6_years 37 = .ok (.invokevirtual 257, 3) := by decide +kernel
theorem dX6_years_40 : decode cX6_years 40 = .ok (.aload_n 0, 1) := by decide +kernel
theorem dX6_years_41 : decode cX6_years 41 = .ok (.getfield 53, 3) := by decide +kernel
theorem dX6_years_44 : decode cX6_years 44 = .ok (.getfield 187, 3) := by decide +kernel
theorem dX6_years_47 : decode cX6_years 47 = .ok (.ifCond .le 9, 3) := by decide +kernel
theorem dX6_years_50 : decode cX6_years 50 = .ok (.aload_n 0, 1) := by decide +kernel
theorem dX6_years_51 : decode cX6_years 51 = .ok (.iload_n 1, 1) := by decide +kernel
theorem dX6_years_52 : decode cX6_years 52 = .ok (.iload_n 2, 1) := by decide +kernel
theorem dX6_years_53 : decode cX6_years 53 = .ok (.invokevirtual 260, 3) := by decide +kernel
theorem dX6_years_56 : decode cX6_years 56 = .ok (.aload_n 0, 1) := by decide +kernel
theorem dX6_years_57 : decode cX6_years 57 = .ok (.getfield 53, 3) := by decide +kernel
theorem dX6_years_60 : decode cX6_years 60 = .ok (.invokevirtual 198, 3) := by decide +kernel
theorem dX6_years_63 : decode cX6_years 63 = .ok (.iload_n 3, 1) := by decide +kernel
theorem dX6_years_64 : decode cX6_years 64 = .ok (.ifCond .ne 16, 3) := by decide +kernel
theorem dX6_years_67 : decode cX6_years 67 = .ok (.aload_n 0, 1) := by decide +kernel
theorem dX6_years_68 : decode cX6_years 68 = .ok (.getfield 53, 3) := by decide +kernel
theorem dX6_years_71 : decode cX6_years 71 = .ok (.invokevirtual 202, 3) := by decide +kernel
theorem dX6_years_74 : decode cX6_years 74 = .ok (.invokestatic 205, 3) := by decide +kernel
theorem dX6_years_77 : decode cX6_years 77 = .ok (.goto 10, 3) := by decide +kernel
theorem dX6_years_80 : decode cX6_years 80 = .ok (.aload_n 0, 1) := by decide +kernel
theorem dX6_years_81 : decode cX6_years 81 = .ok (.getfield 53, 3) := by decide +kernel
theorem dX6_years_84 : decode cX6_years 84 = .ok (.invokevirtual 184, 3) := by decide +kernel
theorem dX6_years_87 : decode cX6_years 87 = .ok (.ireturn, 1) := by decide +kernel
theorem dX6_sheet_0 : decode cX6_sheet 0 = .ok (.iload_n 1, 1) := by decide +kernel
theorem dX6_sheet_1 : decode cX6_sheet 1 = .ok (.invokestatic 137, 3) := by decide +kernel
theorem dX6_sheet_4 : decode cX6_sheet 4 = .ok (.ifCond .eq 16, 3) := by decide +kernel
theorem dX6_sheet_7 : decode cX6_sheet 7 = .ok (.iload_n 2, 1) := by decide +kernel
theorem dX6_sheet_8 : decode cX6_sheet 8 = .ok (.invokestatic 263, 3) := by decide +kernel
theorem dX6_sheet_11 : decode cX6_sheet 11 = .ok (.ifCond .eq 9, 3) := by decide +kernel
theorem dX6_sheet_14 : decode cX6_sheet 14 = .ok (.iload_n 3, 1) := by decide +kernel
theorem dX6_sheet_15 : decode cX6_sheet 15 = .ok (.bipush 60, 2) := by decide +kernel
theorem dX6_sheet_17 : decode cX6_sheet 17 = .ok (.if_icmp .le 6, 3) := by decide +kernel
theorem dX6_sheet_20 : decode cX6_sheet 20 = .ok (.bipush (-2), 2) := by decide +kernel
theorem dX6_sheet_22 : decode cX6_sheet 22 = .ok (.ireturn, 1) := by decide +kernel
theorem dX6_sheet_23 : decode cX6_sheet 23 = .ok (.iload_n 3, 1) := by decide +kernel
theorem dX6_sheet_24 : decode cX6_sheet 24 = .ok (.ifCond .ge 9, 3) := by decide +kernel
theorem dX6_sheet_27 : decode cX6_sheet 27 = .ok (.aload_n 0, 1) := by decide +kernel
theorem dX6_sheet_28 : decode cX6_sheet 28 = .ok (.iconst 5, 1) := by decide +kernel
theorem dX6_sheet_29 : decode cX6_sheet 29 = .ok (.invokevirtual 143, 3) := by decide +kernel
theorem dX6_sheet_32 : decode cX6_sheet 32 = .ok (.ireturn, 1) := by decide +kernel
theorem dX6_sheet_33 : decode cX6_sheet 33 = .ok (.aload_n 0, 1) := by decide +kernel
theorem dX6_sheet_34 : decode cX6_sheet 34 = .ok (.getfield 41, 3) := by decide +kernel
theorem dX6_sheet_37 : decode cX6_sheet 37 = .ok (.iload_n 1, 1) := by decide +kernel
theorem dX6_sheet_38 : decode cX6_sheet 38 = .ok (.aaload, 1) := by decide +kernel
theorem dX6_sheet_39 : decode cX6_sheet 39 = .ok (.iload_n 2, 1) := by decide +kernel
theorem dX6_sheet_40 : decode cX6_sheet 40 = .ok (.iload_n 3, 1) := by decide +kernel
theorem dX6_sheet_41 : decode cX6_sheet 41 = .ok (.invokevirtual 266, 3) := by decide +kernel
theorem dX6_sheet_44 : decode cX6_sheet 44 = .ok (.iload_n 3, 1) := by decide +kernel
theorem dX6_sheet_45 : decode cX6_sheet 45 = .ok (.ireturn, 1) := by decide +kernel
theorem dX6_lose_0 : decode cX6_lose 0 = .ok (.iload_n 1, 1) := by decide +kernel
theorem dX6_lose_1 : decode cX6_lose 1 = .ok (.invokestatic 137, 3) := by decide +kernel
theorem dX6_lose_4 : decode cX6_lose 4 = .ok (.ifCond .ne 6, 3) := by decide +kernel
theorem dX6_lose_7 : decode cX6_lose 7 = .ok (.bipush (-2), 2) := by decide +kernel
theorem dX6_lose_9 : decode cX6_lose 9 = .ok (.ireturn, 1) := by decide +kernel
theorem dX6_lose_10 : decode cX6_lose 10 = .ok (.aload_n 0, 1) := by decide +kernel
theorem dX6_lose_11 : decode cX6_lose 11 = .ok (.getfield 41, 3) := by decide +kernel
theorem dX6_lose_14 : decode cX6_lose 14 = .ok (.iload_n 1, 1) := by decide +kernel
theorem dX6_lose_15 : decode cX6_lose 15 = .ok (.aaload, 1) := by decide +kernel
theorem dX6_lose_16 : decode cX6_lose 16 = .ok (.invokevirtual 140, 3) := by decide +kernel
theorem dX6_lose_19 : decode cX6_lose 19 = .ok (.ifCond .eq 9, 3) := by decide +kernel
theorem dX6_lose_22 : decode cX6_lose 22 = .ok (.aload_n 0, 1) := by decide +kernel
theorem dX6_lose_23 : decode cX6_lose 23 = .ok (.iconst 1, 1) := by decide +kernel
theorem dX6_lose_24 : decode cX6_lose 24 = .ok (.invokevirtual 143, 3) := by decide +kernel
theorem dX6_lose_27 : decode cX6_lose 27 = .ok (.ireturn, 1) := by decide +kernel
theorem dX6_lose_28 : decode cX6_lose 28 = .ok (.aload_n 0, 1) := by decide +kernel
theorem dX6_lose_29 : decode cX6_lose 29 = .ok (.getfield 41, 3) := by decide +kernel
theorem dX6_lose_32 : decode cX6_lose 32 = .ok (.iload_n 1, 1) := by decide +kernel
theorem dX6_lose_33 : decode cX6_lose 33 = .ok (.aaload, 1) := by decide +kernel
theorem dX6_lose_34 : decode cX6_lose 34 = .ok (.invokevirtual 269, 3) := by decide +kernel
theorem dX6_lose_37 : decode cX6_lose 37 = .ok (.ireturn, 1) := by decide +kernel
theorem dX6_put_0 : decode cX6_put 0 = .ok (.iload_n 1, 1) := by decide +kernel
theorem dX6_put_1 : decode cX6_put 1 = .ok (.invokestatic 137, 3) := by decide +kernel
theorem dX6_put_4 : decode cX6_put 4 = .ok (.ifCond .eq 10, 3) := by decide +kernel
theorem dX6_put_7 : decode cX6_put 7 = .ok (.iload_n 2, 1) := by decide +kernel
theorem dX6_put_8 : decode cX6_put 8 = .ok (.invokestatic 263, 3) := by decide +kernel
theorem dX6_put_11 : decode cX6_put 11 = .ok (.ifCond .ne 6, 3) := by decide +kernel
theorem dX6_put_14 : decode cX6_put 14 = .ok (.bipush (-2), 2) := by decide +kernel
theorem dX6_put_16 : decode cX6_put 16 = .ok (.ireturn, 1) := by decide +kernel
theorem dX6_put_17 : decode cX6_put 17 = .ok (.aload_n 0, 1) := by decide +kernel
theorem dX6_put_18 : decode cX6_put 18 = .ok (.getfield 41, 3) := by decide +kernel
theorem dX6_put_21 : decode cX6_put 21 = .ok (.iload_n 1, 1) := by decide +kernel
theorem dX6_put_22 : decode cX6_put 22 = .ok (.aaload, 1) := by decide +kernel
theorem dX6_put_23 : decode cX6_put 23 = .ok (.iload_n 2, 1) := by decide +kernel
theorem dX6_put_24 : decode cX6_put 24 = .ok (.iload_n 3, 1) := by decide +kernel
theorem dX6_put_25 : decode cX6_put 25 = .ok (.invokevirtual 272, 3) := by decide +kernel
theorem dX6_put_28 : decode cX6_put 28 = .ok (.istore 5, 2) := by decide +kernel
theorem dX6_put_30 : decode cX6_put 30 = .ok (.iload 5, 2) := by decide +kernel
theorem dX6_put_32 : decode cX6_put 32 = .ok (.ifCond .eq 10, 3) := by decide +kernel
theorem dX6_put_35 : decode cX6_put 35 = .ok (.aload_n 0, 1) := by decide +kernel
theorem dX6_put_36 : decode cX6_put 36 = .ok (.iload 5, 2) := by decide +kernel
theorem dX6_put_38 : decode cX6_put 38 = .ok (.invokevirtual 143, 3) := by decide +kernel
theorem dX6_put_41 : decode cX6_put 41 = .ok (.ireturn, 1) := by decide +kernel
theorem dX6_put_42 : decode cX6_put 42 = .ok (.aload_n 0, 1) := by decide +kernel
theorem dX6_put_43 : decode cX6_put 43 = .ok (.getfield 41, 3) := by decide +kernel
theorem dX6_put_46 : decode cX6_put 46 = .ok (.iload_n 1, 1) := by decide +kernel
theorem dX6_put_47 : decode cX6_put 47 = .ok (.aaload, 1) := by decide +kernel
theorem dX6_put_48 : decode cX6_put 48 = .ok (.iload_n 3, 1) := by decide +kernel
theorem dX6_put_49 : decode cX6_put 49 = .ok (.iload 4, 2) := by decide +kernel
theorem dX6_put_51 : decode cX6_put 51 = .ok (.invokevirtual 275, 3) := by decide +kernel
theorem dX6_put_54 : decode cX6_put 54 = .ok (.iconst 1, 1) := by decide +kernel
theorem dX6_put_55 : decode cX6_put 55 = .ok (.ireturn, 1) := by decide +kernel
theorem dX6_get_0 : decode cX6_get 0 = .ok (.iload_n 1, 1) := by decide +kernel
theorem dX6_get_1 : decode cX6_get 1 = .ok (.invokestatic 137, 3) := by decide +kernel
theorem dX6_get_4 : decode cX6_get 4 = .ok (.ifCond .eq 10, 3) := by decide +kernel
theorem dX6_get_7 : decode cX6_get 7 = .ok (.iload_n 2, 1) := by decide +kernel
theorem dX6_get_8 : decode cX6_get 8 = .ok (.invokestatic 263, 3) := by decide +kernel
theorem dX6_get_11 : decode cX6_get 11 = .ok (.ifCond .ne 6, 3) := by decide +kernel
theorem dX6_get_14 : decode cX6_get 14 = .ok (.ldc 171, 2) := by decide +kernel
theorem dX6_get_16 : decode cX6_get 16 = .ok (.ireturn, 1) := by decide +kernel
theorem dX6_get_17 : decode cX6_get 17 = .ok (.aload_n 0, 1) := by decide +kernel
theorem dX6_get_18 : decode cX6_get 18 = .ok (.getfield 41, 3) := by decide +kernel
theorem dX6_get_21 : decode cX6_get 21 = .ok (.iload_n 1, 1) := by decide +kernel
theorem dX6_get_22 : decode cX6_get 22 = .ok (.aaload, 1) := by decide +kernel
theorem dX6_get_23 : decode cX6_get 23 = .ok (.iload_n 2, 1) := by decide +kernel
theorem dX6_get_24 : decode cX6_get 24 = .ok (.iload_n 3, 1) := by decide +kernel
theorem dX6_get_25 : decode cX6_get 25 = .ok (.invokevirtual 272, 3) := by decide +kernel
theorem dX6_get_28 : decode cX6_get 28 = .ok (.istore 4, 2) := by decide +kernel
theorem dX6_get_30 : decode cX6_get 30 = .ok (.iload 4, 2) := by decide +kernel
theorem dX6_get_32 : decode cX6_get 32 = .ok (.ifCond .eq 12, 3) := by decide +kernel
theorem dX6_get_35 : decode cX6_get 35 = .ok (.aload_n 0, 1) := by decide +kernel
theorem dX6_get_36 : decode cX6_get 36 = .ok (.iload 4, 2) := by decide +kernel
theorem dX6_get_38 : decode cX6_get 38 = .ok (.putfield 67, 3) := by decide +kernel
theorem dX6_get_41 : decode cX6_get 41 = .ok (.ldc 171, 2) := by decide +kernel
theorem dX6_get_43 : decode cX6_get 43 = .ok (.ireturn, 1) := by decide +kernel
theorem dX6_get_44 : decode cX6_get 44 = .ok (.aload_n 0, 1) := by decide +kernel
theorem dX6_get_45 : decode cX6_get 45 = .ok (.getfield 41, 3) := by decide +kernel
theorem dX6_get_48 : decode cX6_get 48 = .ok (.iload_n 1, 1) := by decide +kernel
theorem dX6_get_49 : decode cX6_get 49 = .ok (.aaload, 1) := by decide +kernel
theorem dX6_get_50 : decode cX6_get 50 = .ok (.getfield 147, 3) := by decide +kernel
theorem dX6_get_53 : decode cX6_get 53 = .ok (.iload_n 3, 1) := by decide +kernel
theorem dX6_get_54 : decode cX6_get 54 = .ok (.iaload, 1) := by decide +kernel
theorem dX6_get_55 : decode cX6_get 55 = .ok (.ireturn, 1) := by decide +kernel
theorem dX6_copy_0 : decode cX6_copy 0 = .ok (.iload_n 1, 1) := by decide +kernel
theorem dX6_copy_1 : decode cX6_copy 1 = .ok (.invokestatic 137, 3) := by decide +kernel
theorem dX6_copy_4 : decode cX6_copy 4 = .ok (.ifCond .eq 10, 3) := by decide +kernel
theorem dX6_copy_7 : decode cX6_copy 7 = .ok (.iload_n 3, 1) := by decide +kernel
theorem dX6_copy_8 : decode cX6_copy 8 = .ok (.invokestatic 137, 3) := by decide +kernel
theorem dX6_copy_11 : decode cX6_copy 11 = .ok (.ifCond .ne 6, 3) := by decide +kernel
theorem dX6_copy_14 : decode cX6_copy 14 = .ok (.bipush (-2), 2) := by decide +kernel
theorem dX6_copy_16 : decode cX6_copy 16 = .ok (.ireturn, 1) := by decide +kernel
theorem dX6_copy_17 : decode cX6_copy 17 = .ok (.aload_n 0, 1) := by decide +kernel
theorem dX6_copy_18 : decode cX6_copy 18 = .ok (.getfield 41, 3) := by decide +kernel
theorem dX6_copy_21 : decode cX6_copy 21 = .ok (.iload_n 1, 1) := by decide +kernel
theorem dX6_copy_22 : decode cX6_copy 22 = .ok (.aaload, 1) := by decide +kernel
theorem dX6_copy_23 : decode cX6_copy 23 = .ok (.astore 6, 2) := by decide +kernel
theorem dX6_copy_25 : decode cX6_copy 25 = .ok (.aload_n 0, 1) := by decide +kernel
theorem dX6_copy_26 : decode cX6_copy 26 = .ok (.getfield 41, 3) := by decide +kernel
theorem dX6_copy_29 : decode cX6_copy 29 = .ok (.iload_n 3, 1) := by decide +kernel
theorem dX6_copy_30 : decode cX6_copy 30 = .ok (.aaload, 1) := by decide +kernel
theorem dX6_copy_31 : decode cX6_copy 31 = .ok (.astore 7, 2) := by decide +kernel
theorem dX6_copy_33 : decode cX6_copy 33 = .ok (.aload 6, 2) := by decide +kernel
theorem dX6_copy_35 : decode cX6_copy 35 = .ok (.invokevirtual 140, 3) := by decide +kernel
theorem dX6_copy_38 : decode cX6_copy 38 = .ok (.ifCond .ne 11, 3) := by decide +kernel
theorem dX6_copy_41 : decode cX6_copy 41 = .ok (.aload 7, 2) := by decide +kernel
theorem dX6_copy_43 : decode cX6_copy 43 = .ok (.invokevirtual 140, 3) := by decide +kernel
theorem dX6_copy_46 : decode cX6_copy 46 = .ok (.ifCond .eq 9, 3) := by decide +kernel
theorem dX6_copy_49 : decode cX6_copy 49 = .ok (.aload_n 0, 1) := by decide +kernel
theorem dX6_copy_50 : decode cX6_copy 50 = .ok (.iconst 1, 1) := by decide +kernel
theorem dX6_copy_51 : decode cX6_copy 51 = .ok (.invokevirtual 143, 3) := by decide +kernel
theorem dX6_copy_54 : decode cX6_copy 54 = .ok (.ireturn, 1) := by decide +kernel
theorem dX6_copy_55 : decode cX6_copy 55 = .ok (.aload 6, 2) := by decide +kernel
theorem dX6_copy_57 : decode cX6_copy 57 = .ok (.getfield 278, 3) := by decide +kernel
theorem dX6_copy_60 : decode cX6_copy 60 = .ok (.aload 7, 2) := by decide +kernel
theorem dX6_copy_62 : decode cX6_copy 62 = .ok (.getfield 278, 3) := by decide +kernel
theorem dX6_copy_65 : decode cX6_copy 65 = .ok (.if_icmp .eq 9, 3) := by decide +kernel
theorem dX6_copy_68 : decode cX6_copy 68 = .ok (.aload_n 0, 1) := by decide +kernel
theorem dX6_copy_69 : decode cX6_copy 69 = .ok (.iconst 4, 1) := by decide +kernel
theorem dX6_copy_70 : decode cX6_copy 70 = .ok (.invokevirtual 143, 3) := by decide +kernel
theorem dX6_copy_73 : decode cX6_copy 73 = .ok (.ireturn, 1) := by decide +kernel
theorem dX6_copy_74 : decode cX6_copy 74 = .ok (.aload 6, 2) := by decide +kernel
theorem dX6_copy_76 : decode cX6_copy 76 = .ok (.iload_n 2, 1) := by decide +kernel
theorem dX6_copy_77 : decode cX6_copy 77 = .ok (.iload 5, 2) := by decide +kernel
theorem dX6_copy_79 : decode cX6_copy 79 = .ok (.invokevirtual 281, 3) := by decide +kernel
theorem dX6_copy_82 : decode cX6_copy 82 = .ok (.ifCond .eq 15, 3) := by decide +kernel
theorem dX6_copy_85 : decode cX6_copy 85 = .ok (.aload 7, 2) := by decide +kernel
theorem dX6_copy_87 : decode cX6_copy 87 = .ok (.iload 4, 2) := by decide +kernel
theorem dX6_copy_89 : decode cX6_copy 89 = .ok (.iload 5, 2) := by decide +kernel
theorem dX6_copy_91 : decode cX6_copy 91 = .ok (.invokevirtual 281, 3) := by decide +kernel
theorem dX6_copy_94 : decode cX6_copy 94 = .ok (.ifCond .ne 9, 3) := by decide +kernel
theorem dX6_copy_97 : decode cX6_copy 97 = .ok (.aload_n 0, 1) := by decide +kernel
theorem dX6_copy_98 : decode cX6_copy 98 = .ok (.iconst 2, 1) := by decide +kernel
theorem dX6_copy_99 : decode cX6_copy 99 = .ok (.invokevirtual 143, 3) := by decide +kernel
theorem dX6_copy_102 : decode cX6_copy 102 = .ok (.ireturn, 1) := by decide +kernel
theorem dX6_copy_103 : decode cX6_copy 103 = .ok (.aload 6, 2) := by decide +kernel
theorem dX6_copy_105 : decode cX6_copy 105 = .ok (.getfield 147, 3) := by decide +kernel
theorem dX6_copy_108 : decode cX6_copy 108 = .ok (.iload_n 2, 1) := by decide +kernel
theorem dX6_copy_109 : decode cX6_copy 109 = .ok (.aload 7, 2) := by decide +kernel
theorem dX6_copy_111 : decode cX6_copy 111 = .ok (.getfield 147, 3) := by decide +kernel
theorem dX6_copy_114 : decode cX6_copy 114 = .ok (.iload 4, 2) := by decide +kernel
theorem dX6_copy_116 : decode cX6_copy 116 = .ok (.iload 5, 2) := by decide +kernel
theorem dX6_copy_118 : decode cX6_copy 118 = .ok (.invokestatic 285, 3) := by decide +kernel
theorem dX6_copy_121 : decode cX6_copy 121 = .ok (.iconst 1, 1) := by decide +kernel
theorem dX6_copy_122 : decode cX6_copy 122 = .ok (.ireturn, 1) := by decide +kernel
theorem dX6_write_0 : decode cX6_write 0 = .ok (.iload_n 1, 1) := by decide +kernel
theorem dX6_write_1 : decode cX6_write 1 = .ok (.invokestatic 137, 3) := by decide +kernel
theorem dX6_write_4 : decode cX6_write 4 = .ok (.ifCond .ne 6, 3) := by decide +kernel
theorem dX6_write_7 : decode cX6_write 7 = .ok (.bipush (-2), 2) := by decide +kernel
theorem dX6_write_9 : decode cX6_write 9 = .ok (.ireturn, 1) := by decide +kernel
theorem dX6_write_10 : decode cX6_write 10 = .ok (.aload_n 0, 1) := by decide +kernel
theorem dX6_write_11 : decode cX6_write 11 = .ok (.getfield 41, 3) := by decide +kernel
theorem dX6_write_14 : decode cX6_write 14 = .ok (.iload_n 1, 1) := by decide +kernel
theorem dX6_write_15 : decode cX6_write 15 = .ok (.aaload, 1) := by decide +kernel
theorem dX6_write_16 : decode cX6_write 16 = .ok (.astore_n 2, 1) := by decide +kernel
theorem dX6_write_17 : decode cX6_write 17 = .ok (.aload_n 2, 1) := by decide +kernel
theorem dX6_write_18 : decode cX6_write 18 = .ok (.invokevirtual 140, 3) := by decide +kernel
theorem dX6_write_21 : decode cX6_write 21 = .ok (.ifCond .eq 9, 3) := by decide +kernel
theorem dX6_write_24 : decode cX6_write 24 = .ok (.aload_n 0, 1) := by decide +kernel
theorem dX6_write_25 : decode cX6_write 25 = .ok (.iconst 1, 1) := by decide +kernel
theorem dX6_write_26 : decode cX6_write 26 = .ok (.invokevirtual 143, 3) := by decide +kernel
theorem dX6_write_29 : decode cX6_write 29 = .ok (.ireturn, 1) := by decide +kernel
theorem dX6_write_30 : decode cX6_write 30 = .ok (.aload_n 0, 1) := by decide +kernel
theorem dX6_write_31 : decode cX6_write 31 = .ok (.invokevirtual 100, 3) := by decide +kernel
theorem dX6_write_34 : decode cX6_write 34 = .ok (.astore_n 3, 1) := by decide +kernel
theorem dX6_write_35 : decode cX6_write 35 = .ok (.aload_n 2, 1) := by decide +kernel
theorem dX6_write_36 : decode cX6_write 36 = .ok (.getfield 146, 3) := by decide +kernel
theorem dX6_write_39 : decode cX6_write 39 = .ok (.bipush 24, 2) := by decide +kernel
theorem dX6_write_41 : decode cX6_write 41 = .ok (.invokestatic 291, 3) := by decide +kernel
theorem dX6_write_44 : decode cX6_write 44 = .ok (.istore 4, 2) := by decide +kernel
theorem dX6_write_46 : decode cX6_write 46 = .ok (.iconst 0, 1) := by decide +kernel
theorem dX6_write_47 : decode cX6_write 47 = .ok (.istore 5, 2) := by decide +kernel
theorem dX6_write_49 : decode cX6_write 49 = .ok (.iload 5, 2) := by decide +kernel
theorem dX6_write_51 : decode cX6_write 51 = .ok (.iload 4, 2) := by decide +kernel
theorem dX6_write_53 : decode cX6_write 53 = .ok (.if_icmp .ge 21, 3) := by decide +kernel
theorem dX6_write_56 : decode cX6_write 56 = .ok (.aload_n 2, 1) := by decide +kernel
theorem dX6_write_57 : decode cX6_write 57 = .ok (.iload 5, 2) := by decide +kernel
theorem dX6_write_59 : decode cX6_write 59 = .ok (.aload_n 3, 1) := by decide +kernel
theorem dX6_write_60 : decode cX6_write 60 = .ok (.iload 5, 2) := by decide +kernel
theorem dX6_write_62 : decode cX6_write 62 = .ok (.invokevirtual 168, 3) := by decide +kernel
theorem dX6_write_65 : decode cX6_write 65 = .ok (.invokevirtual 275, 3) := by decide +kernel
theorem dX6_write_68 : decode cX6_write 68 = .ok (.iinc 5 1, 3) := by decide +kernel
theorem dX6_write_71 : decode cX6_write 71 = .ok (.goto (-22), 3) := by decide +kernel
theorem dX6_write_74 : decode cX6_write 74 = .ok (.iload 4, 2) := by decide +kernel
theorem dX6_write_76 : decode cX6_write 76 = .ok (.ireturn, 1) := by decide +kernel
theorem dX6_count_0 : decode cX6_count 0 = .ok (.iload_n 1, 1) := by decide +kernel
theorem dX6_count_1 : decode cX6_count 1 = .ok (.tableswitch 130 0 8 #[51, 59, 67, 77, 87, 95, 106, 117, 125], 51) := by decide +kernel
theorem dX6_count_52 : decode cX6_count 52 = .ok (.aload_n 0, 1) := by decide +kernel
theorem dX6_count_53 : decode cX6_count 53 = .ok (.invokevirtual 100, 3) := by decide +kernel
theorem dX6_count_56 : decode cX6_count 56 = .ok (.getfield 187, 3) := by decide +kernel
theorem dX6_count_59 : decode cX6_count 59 = .ok (.ireturn, 1) := by decide +kernel
theorem dX6_count_60 : decode cX6_count 60 = .ok (.aload_n 0, 1) := by decide +kernel
theorem dX6_count_61 : decode cX6_count 61 = .ok (.invokevirtual 100, 3) := by decide +kernel
theorem dX6_count_64 : decode cX6_count 64 = .ok (.getfield 296, 3) := by decide +kernel
theorem dX6_count_67 : decode cX6_count 67 = .ok (.ireturn, 1) := by decide +kernel
theorem dX6_count_68 : decode cX6_count 68 = .ok (.aload_n 0, 1) := by decide +kernel
theorem dX6_count_69 : decode cX6_count 69 = .ok (.getfield 9, 3) := by decide +kernel
theorem dX6_count_72 : decode cX6_count 72 = .ok (.iconst 0, 1) := by decide +kernel
theorem dX6_count_73 : decode cX6_count 73 = .ok (.aaload, 1) := by decide +kernel
theorem dX6_count_74 : decode cX6_count 74 = .ok (.getfield 91, 3) := by decide +kernel
theorem dX6_count_77 : decode cX6_count 77 = .ok (.ireturn, 1) := by decide +kernel
theorem dX6_count_78 : decode cX6_count 78 = .ok (.aload_n 0, 1) := by decide +kernel
theorem dX6_count_79 : decode cX6_count 79 = .ok (.getfield 9, 3) := by decide +kernel
theorem dX6_count_82 : decode cX6_count 82 = .ok (.iconst 1, 1) := by decide +kernel
theorem dX6_count_83 : decode cX6_count 83 = .ok (.aaload, 1) := by decide +kernel
theorem dX6_count_84 : decode cX6_count 84 = .ok (.getfield 91, 3) := by decide +kernel
theorem dX6_count_87 : decode cX6_count 87 = .ok (.ireturn, 1) := by decide +kernel
theorem dX6_count_88 : decode cX6_count 88 = .ok (.aload_n 0, 1) := by decide +kernel
theorem dX6_count_89 : decode cX6_count 89 = .ok (.getfield 28, 3) := by decide +kernel
theorem dX6_count_92 : decode cX6_count 92 = .ok (.getfield 135, 3) := by decide +kernel
theorem dX6_count_95 : decode cX6_count 95 = .ok (.ireturn, 1) := by decide +kernel
theorem dX6_count_96 : decode cX6_count 96 = .ok (.aload_n 0, 1) := by decide +kernel
theorem dX6_count_97 : decode cX6_count 97 = .ok (.invokevirtual 100, 3) := by decide +kernel
theorem dX6_count_100 : decode cX6_count 100 = .ok (.invokevirtual 202, 3) := by decide +kernel
theorem dX6_count_103 : decode cX6_count 103 = .ok (.invokestatic 205, 3) := by decide +kernel
theorem dX6_count_106 : decode cX6_count 106 = .ok (.ireturn, 1) := by decide +kernel
theorem dX6_count_107 : decode cX6_count 107 = .ok (.aload_n 0, 1) := by decide +kernel
theorem dX6_count_108 : decode cX6_count 108 = .ok (.invokevirtual 100, 3) := by decide +kernel
theorem dX6_count_111 : decode cX6_count 111 = .ok (.invokevirtual 178, 3) := by decide +kernel
theorem dX6_count_114 : decode cX6_count 114 = .ok (.invokestatic 205, 3) := by decide +kernel
theorem dX6_count_117 : decode cX6_count 117 = .ok (.ireturn, 1) := by decide +kernel
theorem dX6_count_118 : decode cX6_count 118 = .ok (.aload_n 0, 1) := by decide +kernel
theorem dX6_count_119 : decode cX6_count 119 = .ok (.getfield 35, 3) := by decide +kernel
theorem dX6_count_122 : decode cX6_count 122 = .ok (.getfield 217, 3) := by decide +kernel
theorem dX6_count_125 : decode cX6_count 125 = .ok (.ireturn, 1) := by decide +kernel
theorem dX6_count_126 : decode cX6_count 126 = .ok (.aload_n 0, 1) := by decide +kernel
theorem dX6_count_127 : decode cX6_count 127 = .ok (.getfield 67, 3) := by decide +kernel
theorem dX6_count_130 : decode cX6_count 130 = .ok (.ireturn, 1) := by decide +kernel
theorem dX6_count_131 : decode cX6_count 131 = .ok (.bipush (-2), 2) := by decide +kernel
theorem dX6_count_133 : decode cX6_count 133 = .ok (.ireturn, 1) := by decide +kernel
theorem dX6_digest_0 : decode cX6_digest 0 = .ok (.ldc2_w 299, 3) := by decide +kernel
theorem dX6_digest_3 : decode cX6_digest 3 = .ok (.lstore_n 1, 1) := by decide +kernel
theorem dX6_digest_4 : decode cX6_digest 4 = .ok (.iconst 0, 1) := by decide +kernel
theorem dX6_digest_5 : decode cX6_digest 5 = .ok (.istore_n 3, 1) := by decide +kernel
theorem dX6_digest_6 : decode cX6_digest 6 = .ok (.iload_n 3, 1) := by decide +kernel
theorem dX6_digest_7 : decode cX6_digest 7 = .ok (.bipush 7, 2) := by decide +kernel
theorem dX6_digest_9 : decode cX6_digest 9 = .ok (.if_icmp .gt 22, 3) := by decide +kernel
theorem dX6_digest_12 : decode cX6_digest 12 = .ok (.ldc2_w 301, 3) := by decide +kernel
theorem dX6_digest_15 : decode cX6_digest 15 = .ok (.lload_n 1, 1) := by decide +kernel
theorem dX6_digest_16 : decode cX6_digest 16 = .ok (.lmul, 1) := by decide +kernel
theorem dX6_digest_17 : decode cX6_digest 17 = .ok (.aload_n 0, 1) := by decide +kernel
theorem dX6_digest_18 : decode cX6_digest 18 = .ok (.iload_n 3, 1) := by decide +kernel
theorem dX6_digest_19 : decode cX6_digest 19 = .ok (.invokevirtual 303, 3) := by decide +kernel
theorem dX6_digest_22 : decode cX6_digest 22 = .ok (.i2l, 1) := by decide +kernel
theorem dX6_digest_23 : decode cX6_digest 23 = .ok (.ladd, 1) := by decide +kernel
theorem dX6_digest_24 : decode cX6_digest 24 = .ok (.lstore_n 1, 1) := by decide +kernel
theorem dX6_digest_25 : decode cX6_digest 25 = .ok (.iinc 3 1, 3) := by decide +kernel
theorem dX6_digest_28 : decode cX6_digest 28 = .ok (.goto (-22), 3) := by decide +kernel
theorem dX6_digest_31 : decode cX6_digest 31 = .ok (.ldc2_w 301, 3) := by decide +kernel
theorem dX6_digest_34 : decode cX6_digest 34 = .ok (.lload_n 1, 1) := by decide +kernel
theorem dX6_digest_35 : decode cX6_digest 35 = .ok (.lmul, 1) := by decide +kernel
theorem dX6_digest_36 : decode cX6_digest 36 = .ok (.aload_n 0, 1) := by decide +kernel
theorem dX6_digest_37 : decode cX6_digest 37 = .ok (.iconst 0, 1) := by decide +kernel
theorem dX6_digest_38 : decode cX6_digest 38 = .ok (.invokevirtual 306, 3) := by decide +kernel
theorem dX6_digest_41 : decode cX6_digest 41 = .ok (.i2l, 1) := by decide +kernel
theorem dX6_digest_42 : decode cX6_digest 42 = .ok (.ladd, 1) := by decide +kernel
theorem dX6_digest_43 : decode cX6_digest 43 = .ok (.lstore_n 1, 1) := by decide +kernel
theorem dX6_digest_44 : decode cX6_digest 44 = .ok (.ldc2_w 301, 3) := by decide +kernel
theorem dX6_digest_47 : decode cX6_digest 47 = .ok (.lload_n 1, 1) := by decide +kernel
theorem dX6_digest_48 : decode cX6_digest 48 = .ok (.lmul, 1) := by decide +kernel
theorem dX6_digest_49 : decode cX6_digest 49 = .ok (.aload_n 0, 1) := by decide +kernel
theorem dX6_digest_50 : decode cX6_digest 50 = .ok (.iconst 1, 1) := by decide +kernel
theorem dX6_digest_51 : decode cX6_digest 51 = .ok (.invokevirtual 306, 3) := by decide +kernel
theorem dX6_digest_54 : decode cX6_digest 54 = .ok (.i2l, 1) := by decide +kernel
theorem dX6_digest_55 : decode cX6_digest 55 = .ok (.ladd, 1) := by decide +kernel
theorem dX6_digest_56 : decode cX6_digest 56 = .ok (.lstore_n 1, 1) := by decide +kernel
theorem dX6_digest_57 : decode cX6_digest 57 = .ok (.aload_n 0, 1) := by decide +kernel
theorem dX6_digest_58 : decode cX6_digest 58 = .ok (.lload_n 1, 1) := by decide +kernel
theorem dX6_digest_59 : decode cX6_digest 59 = .ok (.invokevirtual 309, 3) := by decide +kernel
theorem dX6_digest_62 : decode cX6_digest 62 = .ok (.lstore_n 1, 1) := by decide +kernel
theorem dX6_digest_63 : decode cX6_digest 63 = .ok (.aload_n 0, 1) := by decide +kernel
theorem dX6_digest_64 : decode cX6_digest 64 = .ok (.lload_n 1, 1) := by decide +kernel
theorem dX6_digest_65 : decode cX6_digest 65 = .ok (.invokevirtual 313, 3) := by decide +kernel
theorem dX6_digest_68 : decode cX6_digest 68 = .ok (.lstore_n 1, 1) := by decide +kernel
theorem dX6_digest_69 : decode cX6_digest 69 = .ok (.aload_n 0, 1) := by decide +kernel
theorem dX6_digest_70 : decode cX6_digest 70 = .ok (.lload_n 1, 1) := by decide +kernel
theorem dX6_digest_71 : decode cX6_digest 71 = .ok (.invokevirtual 316, 3) := by decide +kernel
theorem dX6_digest_74 : decode cX6_digest 74 = .ok (.lstore_n 1, 1) := by decide +kernel
theorem dX6_digest_75 : decode cX6_digest 75 = .ok (.ldc2_w 301, 3) := by decide +kernel
theorem dX6_digest_78 : decode cX6_digest 78 = .ok (.lload_n 1, 1) := by decide +kernel
theorem dX6_digest_79 : decode cX6_digest 79 = .ok (.lmul, 1) := by decide +kernel
theorem dX6_digest_80 : decode cX6_digest 80 = .ok (.aload_n 0, 1) := by decide +kernel
theorem dX6_digest_81 : decode cX6_digest 81 = .ok (.invokevirtual 319, 3) := by decide +kernel
theorem dX6_digest_84 : decode cX6_digest 84 = .ok (.i2l, 1) := by decide +kernel
theorem dX6_digest_85 : decode cX6_digest 85 = .ok (.ladd, 1) := by decide +kernel
theorem dX6_digest_86 : decode cX6_digest 86 = .ok (.lstore_n 1, 1) := by decide +kernel
theorem dX6_digest_87 : decode cX6_digest 87 = .ok (.ldc2_w 301, 3) := by decide +kernel
theorem dX6_digest_90 : decode cX6_digest 90 = .ok (.lload_n 1, 1) := by decide +kernel
theorem dX6_digest_91 : decode cX6_digest 91 = .ok (.lmul, 1) := by decide +kernel
theorem dX6_digest_92 : decode cX6_digest 92 = .ok (.aload_n 0, 1) := by decide +kernel
theorem dX6_digest_93 : decode cX6_digest 93 = .ok (.iconst 0, 1) := by decide +kernel
theorem dX6_digest_94 : decode cX6_digest 94 = .ok (.invokevirtual 322, 3) := by decide +kernel
theorem dX6_digest_97 : decode cX6_digest 97 = .ok (.i2l, 1) := by decide +kernel
theorem dX6_digest_98 : decode cX6_digest 98 = .ok (.ladd, 1) := by decide +kernel
theorem dX6_digest_99 : decode cX6_digest 99 = .ok (.lstore_n 1, 1) := by decide +kernel
theorem dX6_digest_100 : decode cX6_digest 100 = .ok (.ldc2_w 301, 3) := by decide +kernel
theorem dX6_digest_103 : decode cX6_digest 103 = .ok (.lload_n 1, 1) := by decide +kernel
theorem dX6_digest_104 : decode cX6_digest 104 = .ok (.lmul, 1) := by decide +kernel
theorem dX6_digest_105 : decode cX6_digest 105 = .ok (.aload_n 0, 1) := by decide +kernel
theorem dX6_digest_106 : decode cX6_digest 106 = .ok (.iconst 1, 1) := by decide +kernel
theorem dX6_digest_107 : decode cX6_digest 107 = .ok (.invokevirtual 322, 3) := by decide +kernel
theorem dX6_digest_110 : decode cX6_digest 110 = .ok (.i2l, 1) := by decide +kernel
theorem dX6_digest_111 : decode cX6_digest 111 = .ok (.ladd, 1) := by decide +kernel
theorem dX6_digest_112 : decode cX6_digest 112 = .ok (.lstore_n 1, 1) := by decide +kernel
theorem dX6_digest_113 : decode cX6_digest 113 = .ok (.ldc2_w 301, 3) := by decide +kernel
theorem dX6_digest_116 : decode cX6_digest 116 = .ok (.lload_n 1, 1) := by decide +kernel
theorem dX6_digest_117 : decode cX6_digest 117 = .ok (.lmul, 1) := by decide +kernel
theorem dX6_digest_118 : decode cX6_digest 118 = .ok (.aload_n 0, 1) := by decide +kernel
theorem dX6_digest_119 : decode cX6_digest 119 = .ok (.invokevirtual 325, 3) := by decide +kernel
theorem dX6_digest_122 : decode cX6_digest 122 = .ok (.i2l, 1) := by decide +kernel
theorem dX6_digest_123 : decode cX6_digest 123 = .ok (.ladd, 1) := by decide +kernel
theorem dX6_digest_124 : decode cX6_digest 124 = .ok (.lstore_n 1, 1) := by decide +kernel
theorem dX6_digest_125 : decode cX6_digest 125 = .ok (.ldc2_w 301, 3) := by decide +kernel
theorem dX6_digest_128 : decode cX6_digest 128 = .ok (.lload_n 1, 1) := by decide +kernel
theorem dX6_digest_129 : decode cX6_digest 129 = .ok (.lmul, 1) := by decide +kernel
theorem dX6_digest_130 : decode cX6_digest 130 = .ok (.aload_n 0, 1) := by decide +kernel
theorem dX6_digest_131 : decode cX6_digest 131 = .ok (.invokevirtual 328, 3) := by decide +kernel
theorem dX6_digest_134 : decode cX6_digest 134 = .ok (.i2l, 1) := by decide +kernel
theorem dX6_digest_135 : decode cX6_digest 135 = .ok (.ladd, 1) := by decide +kernel
theorem dX6_digest_136 : decode cX6_digest 136 = .ok (.lstore_n 1, 1) := by decide +kernel
theorem dX6_digest_137 : decode cX6_digest 137 = .ok (.ldc2_w 301, 3) := by decide +kernel
theorem dX6_digest_140 : decode cX6_digest 140 = .ok (.lload_n 1, 1) := by decide +kernel
theorem dX6_digest_141 : decode cX6_digest 141 = .ok (.lmul, 1) := by decide +kernel
theorem dX6_digest_142 : decode cX6_digest 142 = .ok (.aload_n 0, 1) := by decide +kernel
theorem dX6_digest_143 : decode cX6_digest 143 = .ok (.invokevirtual 331, 3) := by decide +kernel
theorem dX6_digest_146 : decode cX6_digest 146 = .ok (.i2l, 1) := by decide +kernel
theorem dX6_digest_147 : decode cX6_digest 147 = .ok (.ladd, 1) := by decide +kernel
theorem dX6_digest_148 : decode cX6_digest 148 = .ok (.lstore_n 1, 1) := by decide +kernel
theorem dX6_digest_149 : decode cX6_digest 149 = .ok (.ldc2_w 301, 3) := by decide +kernel
theorem dX6_digest_152 : decode cX6_digest 152 = .ok (.lload_n 1, 1) := by decide +kernel
theorem dX6_digest_153 : decode cX6_digest 153 = .ok (.lmul, 1) := by decide +kernel
theorem dX6_digest_154 : decode cX6_digest 154 = .ok (.aload_n 0, 1) := by decide +kernel
theorem dX6_digest_155 : decode cX6_digest 155 = .ok (.bipush 8, 2) := by decide +kernel
theorem dX6_digest_157 : decode cX6_digest 157 = .ok (.iconst 0, 1) := by decide +kernel
theorem dX6_digest_158 : decode cX6_digest 158 = .ok (.invokevirtual 334, 3) := by decide +kernel
theorem dX6_digest_161 : decode cX6_digest 161 = .ok (.i2l, 1) := by decide +kernel
theorem dX6_digest_162 : decode cX6_digest 162 = .ok (.ladd, 1) := by decide +kernel
theorem dX6_digest_163 : decode cX6_digest 163 = .ok (.lstore_n 1, 1) := by decide +kernel
theorem dX6_digest_164 : decode cX6_digest 164 = .ok (.ldc2_w 301, 3) := by decide +kernel
theorem dX6_digest_167 : decode cX6_digest 167 = .ok (.lload_n 1, 1) := by decide +kernel
theorem dX6_digest_168 : decode cX6_digest 168 = .ok (.lmul, 1) := by decide +kernel
theorem dX6_digest_169 : decode cX6_digest 169 = .ok (.aload_n 0, 1) := by decide +kernel
theorem dX6_digest_170 : decode cX6_digest 170 = .ok (.bipush 8, 2) := by decide +kernel
theorem dX6_digest_172 : decode cX6_digest 172 = .ok (.iconst 1, 1) := by decide +kernel
theorem dX6_digest_173 : decode cX6_digest 173 = .ok (.invokevirtual 334, 3) := by decide +kernel
theorem dX6_digest_176 : decode cX6_digest 176 = .ok (.i2l, 1) := by decide +kernel
theorem dX6_digest_177 : decode cX6_digest 177 = .ok (.ladd, 1) := by decide +kernel
theorem dX6_digest_178 : decode cX6_digest 178 = .ok (.lstore_n 1, 1) := by decide +kernel
theorem dX6_digest_179 : decode cX6_digest 179 = .ok (.ldc2_w 301, 3) := by decide +kernel
theorem dX6_digest_182 : decode cX6_digest 182 = .ok (.lload_n 1, 1) := by decide +kernel
theorem dX6_digest_183 : decode cX6_digest 183 = .ok (.lmul, 1) := by decide +kernel
theorem dX6_digest_184 : decode cX6_digest 184 = .ok (.aload_n 0, 1) := by decide +kernel
theorem dX6_digest_185 : decode cX6_digest 185 = .ok (.iconst (-1), 1) := by decide +kernel
theorem dX6_digest_186 : decode cX6_digest 186 = .ok (.invokevirtual 337, 3) := by decide +kernel
theorem dX6_digest_189 : decode cX6_digest 189 = .ok (.i2l, 1) := by decide +kernel
theorem dX6_digest_190 : decode cX6_digest 190 = .ok (.ladd, 1) := by decide +kernel
theorem dX6_digest_191 : decode cX6_digest 191 = .ok (.lstore_n 1, 1) := by decide +kernel
theorem dX6_digest_192 : decode cX6_digest 192 = .ok (.ldc2_w 301, 3) := by decide +kernel
theorem dX6_digest_195 : decode cX6_digest 195 = .ok (.lload_n 1, 1) := by decide +kernel
theorem dX6_digest_196 : decode cX6_digest 196 = .ok (.lmul, 1) := by decide +kernel
theorem dX6_digest_197 : decode cX6_digest 197 = .ok (.aload_n 0, 1) := by decide +kernel
theorem dX6_digest_198 : decode cX6_digest 198 = .ok (.iconst 0, 1) := by decide +kernel
theorem dX6_digest_199 : decode cX6_digest 199 = .ok (.invokevirtual 337, 3) := by decide +kernel
theorem dX6_digest_202 : decode cX6_digest 202 = .ok (.i2l, 1) := by decide +kernel
theorem dX6_digest_203 : decode cX6_digest 203 = .ok (.ladd, 1) := by decide +kernel
theorem dX6_digest_204 : decode cX6_digest 204 = .ok (.lstore_n 1, 1) := by decide +kernel
theorem dX6_digest_205 : decode cX6_digest 205 = .ok (.ldc2_w 301, 3) := by decide +kernel
theorem dX6_digest_208 : decode cX6_digest 208 = .ok (.lload_n 1, 1) := by decide +kernel
theorem dX6_digest_209 : decode cX6_digest 209 = .ok (.lmul, 1) := by decide +kernel
theorem dX6_digest_210 : decode cX6_digest 210 = .ok (.aload_n 0, 1) := by decide +kernel
theorem dX6_digest_211 : decode cX6_digest 211 = .ok (.invokevirtual 340, 3) := by decide +kernel
theorem dX6_digest_214 : decode cX6_digest 214 = .ok (.i2l, 1) := by decide +kernel
theorem dX6_digest_215 : decode cX6_digest 215 = .ok (.ladd, 1) := by decide +kernel
theorem dX6_digest_216 : decode cX6_digest 216 = .ok (.lstore_n 1, 1) := by decide +kernel
theorem dX6_digest_217 : decode cX6_digest 217 = .ok (.ldc2_w 301, 3) := by decide +kernel
theorem dX6_digest_220 : decode cX6_digest 220 = .ok (.lload_n 1, 1) := by decide +kernel
theorem dX6_digest_221 : decode cX6_digest 221 = .ok (.lmul, 1) := by decide +kernel
theorem dX6_digest_222 : decode cX6_digest 222 = .ok (.aload_n 0, 1) := by decide +kernel
theorem dX6_digest_223 : decode cX6_digest 223 = .ok (.bipush 7, 2) := by decide +kernel
theorem dX6_digest_225 : decode cX6_digest 225 = .ok (.bipush 6, 2) := by decide +kernel
theorem dX6_digest_227 : decode cX6_digest 227 = .ok (.iconst 0, 1) := by decide +kernel
theorem dX6_digest_228 : decode cX6_digest 228 = .ok (.invokevirtual 343, 3) := by decide +kernel
theorem dX6_digest_231 : decode cX6_digest 231 = .ok (.i2l, 1) := by decide +kernel
theorem dX6_digest_232 : decode cX6_digest 232 = .ok (.ladd, 1) := by decide +kernel
theorem dX6_digest_233 : decode cX6_digest 233 = .ok (.lstore_n 1, 1) := by decide +kernel
theorem dX6_digest_234 : decode cX6_digest 234 = .ok (.ldc2_w 301, 3) := by decide +kernel
theorem dX6_digest_237 : decode cX6_digest 237 = .ok (.lload_n 1, 1) := by decide +kernel
theorem dX6_digest_238 : decode cX6_digest 238 = .ok (.lmul, 1) := by decide +kernel
theorem dX6_digest_239 : decode cX6_digest 239 = .ok (.aload_n 0, 1) := by decide +kernel
theorem dX6_digest_240 : decode cX6_digest 240 = .ok (.bipush 7, 2) := by decide +kernel
theorem dX6_digest_242 : decode cX6_digest 242 = .ok (.bipush 6, 2) := by decide +kernel
theorem dX6_digest_244 : decode cX6_digest 244 = .ok (.iconst 1, 1) := by decide +kernel
theorem dX6_digest_245 : decode cX6_digest 245 = .ok (.invokevirtual 343, 3) := by decide +kernel
theorem dX6_digest_248 : decode cX6_digest 248 = .ok (.i2l, 1) := by decide +kernel
theorem dX6_digest_249 : decode cX6_digest 249 = .ok (.ladd, 1) := by decide +kernel
theorem dX6_digest_250 : decode cX6_digest 250 = .ok (.lreturn, 1) := by decide +kernel
theorem dX6_digestMen_0 : decode cX6_digestMen 0 = .ok (.lload_n 1, 1) := by decide +kernel
theorem dX6_digestMen_1 : decode cX6_digestMen 1 = .ok (.lstore_n 3, 1) := by decide +kernel
theorem dX6_digestMen_2 : decode cX6_digestMen 2 = .ok (.aload_n 0, 1) := by decide +kernel
theorem dX6_digestMen_3 : decode cX6_digestMen 3 = .ok (.invokevirtual 100, 3) := by decide +kernel
theorem dX6_digestMen_6 : decode cX6_digestMen 6 = .ok (.getfield 296, 3) := by decide +kernel
theorem dX6_digestMen_9 : decode cX6_digestMen 9 = .ok (.istore 5, 2) := by decide +kernel
theorem dX6_digestMen_11 : decode cX6_digestMen 11 = .ok (.iconst 0, 1) := by decide +kernel
theorem dX6_digestMen_12 : decode cX6_digestMen 12 = .ok (.istore 6, 2) := by decide +kernel
theorem dX6_digestMen_14 : decode cX6_digestMen 14 = .ok (.iload 6, 2) := by decide +kernel
theorem dX6_digestMen_16 : decode cX6_digestMen 16 = .ok (.iload 5, 2) := by decide +kernel
theorem dX6_digestMen_18 : decode cX6_digestMen 18 = .ok (.if_icmp .ge 70, 3) := by decide +kernel
theorem dX6_digestMen_21 : decode cX6_digestMen 21 = .ok (.iconst 0, 1) := by decide +kernel
theorem dX6_digestMen_22 : decode cX6_digestMen 22 = .ok (.istore 7, 2) := by decide +kernel
theorem dX6_digestMen_24 : decode cX6_digestMen 24 = .ok (.iload 7, 2) := by decide +kernel
theorem dX6_digestMen_26 : decode cX6_digestMen 26 = .ok (.iconst 2, 1) := by decide +kernel
theorem dX6_digestMen_27 : decode cX6_digestMen 27 = .ok (.if_icmp .gt 25, 3) := by decide +kernel
theorem dX6_digestMen_30 : decode cX6_digestMen 30 = .ok (.ldc2_w 301, 3) := by decide +kernel
theorem dX6_digestMen_33 : decode cX6_digestMen 33 = .ok (.lload_n 3, 1) := by decide +kernel
theorem dX6_digestMen_34 : decode cX6_digestMen 34 = .ok (.lmul, 1) := by decide +kernel
theorem dX6_digestMen_35 : decode cX6_digestMen 35 = .ok (.aload_n 0, 1) := by decide +kernel
theorem dX6_digestMen_36 : decode cX6_digestMen 36 = .ok (.iload 6, 2) := by decide +kernel
theorem dX6_digestMen_38 : decode cX6_digestMen 38 = .ok (.iload 7, 2) := by decide +kernel
theorem dX6_digestMen_40 : decode cX6_digestMen 40 = .ok (.invokevirtual 347, 3) := by decide +kernel
theorem dX6_digestMen_43 : decode cX6_digestMen 43 = .ok (.i2l, 1) := by decide +kernel
theorem dX6_digestMen_44 : decode cX6_digestMen 44 = .ok (.ladd, 1) := by decide +kernel
theorem dX6_digestMen_45 : decode cX6_digestMen 45 = .ok (.lstore_n 3, 1) := by decide +kernel
theorem dX6_digestMen_46 : decode cX6_digestMen 46 = .ok (.iinc 7 1, 3) := by decide +kernel
theorem dX6_digestMen_49 : decode cX6_digestMen 49 = .ok (.goto (-25), 3) := by decide +kernel
theorem dX6_digestMen_52 : decode cX6_digestMen 52 = .ok (.ldc2_w 301, 3) := by decide +kernel
theorem dX6_digestMen_55 : decode cX6_digestMen 55 = .ok (.lload_n 3, 1) := by decide +kernel
theorem dX6_digestMen_56 : decode cX6_digestMen 56 = .ok (.lmul, 1) := by decide +kernel
theorem dX6_digestMen_57 : decode cX6_digestMen 57 = .ok (.aload_n 0, 1) := by decide +kernel
theorem dX6_digestMen_58 : decode cX6_digestMen 58 = .ok (.iload 6, 2) := by decide +kernel
theorem dX6_digestMen_60 : decode cX6_digestMen 60 = .ok (.iconst 0, 1) := by decide +kernel
theorem dX6_digestMen_61 : decode cX6_digestMen 61 = .ok (.invokevirtual 350, 3) := by decide +kernel
theorem dX6_digestMen_64 : decode cX6_digestMen 64 = .ok (.i2l, 1) := by decide +kernel
theorem dX6_digestMen_65 : decode cX6_digestMen 65 = .ok (.ladd, 1) := by decide +kernel
theorem dX6_digestMen_66 : decode cX6_digestMen 66 = .ok (.lstore_n 3, 1) := by decide +kernel
theorem dX6_digestMen_67 : decode cX6_digestMen 67 = .ok (.ldc2_w 301, 3) := by decide +kernel
theorem dX6_digestMen_70 : decode cX6_digestMen 70 = .ok (.lload_n 3, 1) := by decide +kernel
theorem dX6_digestMen_71 : decode cX6_digestMen 71 = .ok (.lmul, 1) := by decide +kernel
theorem dX6_digestMen_72 : decode cX6_digestMen 72 = .ok (.aload_n 0, 1) := by decide +kernel
theorem dX6_digestMen_73 : decode cX6_digestMen 73 = .ok (.iload 6, 2) := by decide +kernel
theorem dX6_digestMen_75 : decode cX6_digestMen 75 = .ok (.iconst 1, 1) := by decide +kernel
theorem dX6_digestMen_76 : decode cX6_digestMen 76 = .ok (.invokevirtual 350, 3) := by decide +kernel
theorem dX6_digestMen_79 : decode cX6_digestMen 79 = .ok (.i2l, 1) := by decide +kernel
theorem dX6_digestMen_80 : decode cX6_digestMen 80 = .ok (.ladd, 1) := by decide +kernel
theorem dX6_digestMen_81 : decode cX6_digestMen 81 = .ok (.lstore_n 3, 1) := by decide +kernel
theorem dX6_digestMen_82 : decode cX6_digestMen 82 = .ok (.iinc 6 1, 3) := by decide +kernel
theorem dX6_digestMen_85 : decode cX6_digestMen 85 = .ok (.goto (-71), 3) := by decide +kernel
theorem dX6_digestMen_88 : decode cX6_digestMen 88 = .ok (.lload_n 3, 1) := by decide +kernel
theorem dX6_digestMen_89 : decode cX6_digestMen 89 = .ok (.lreturn, 1) := by decide +kernel
theorem dX6_digestCallers_0 : decode cX6_digestCallers 0 = .ok (.lload_n 1, 1) := by decide +kernel
theorem dX6_digestCallers_1 : decode cX6_digestCallers 1 = .ok (.lstore_n 3, 1) := by decide +kernel
theorem dX6_digestCallers_2 : decode cX6_digestCallers 2 = .ok (.aload_n 0, 1) := by decide +kernel
theorem dX6_digestCallers_3 : decode cX6_digestCallers 3 = .ok (.invokevirtual 100, 3) := by decide +kernel
theorem dX6_digestCallers_6 : decode cX6_digestCallers 6 = .ok (.getfield 187, 3) := by decide +kernel
theorem dX6_digestCallers_9 : decode cX6_digestCallers 9 = .ok (.istore 5, 2) := by decide +kernel
theorem dX6_digestCallers_11 : decode cX6_digestCallers 11 = .ok (.iconst 0, 1) := by decide +kernel
theorem dX6_digestCallers_12 : decode cX6_digestCallers 12 = .ok (.istore 6, 2) := by decide +kernel
theorem dX6_digestCallers_14 : decode cX6_digestCallers 14 = .ok (.iload 6, 2) := by decide +kernel
theorem dX6_digestCallers_16 : decode cX6_digestCallers 16 = .ok (.iload 5, 2) := by decide +kernel
theorem dX6_digestCallers_18 : decode cX6_digestCallers 18 = .ok (.if_icmp .ge 190, 3) := by decide +kernel
theorem dX6_digestCallers_21 : decode cX6_digestCallers 21 = .ok (.iconst 0, 1) := by decide +kernel
theorem dX6_digestCallers_22 : decode cX6_digestCallers 22 = .ok (.istore 7, 2) := by decide +kernel
theorem dX6_digestCallers_24 : decode cX6_digestCallers 24 = .ok (.iload 7, 2) := by decide +kernel
theorem dX6_digestCallers_26 : decode cX6_digestCallers 26 = .ok (.iconst 3, 1) := by decide +kernel
theorem dX6_digestCallers_27 : decode cX6_digestCallers 27 = .ok (.if_icmp .gt 25, 3) := by decide +kernel
theorem dX6_digestCallers_30 : decode cX6_digestCallers 30 = .ok (.ldc2_w 301, 3) := by decide +kernel
theorem dX6_digestCallers_33 : decode cX6_digestCallers 33 = .ok (.lload_n 3, 1) := by decide +kernel
theorem dX6_digestCallers_34 : decode cX6_digestCallers 34 = .ok (.lmul, 1) := by decide +kernel
theorem dX6_digestCallers_35 : decode cX6_digestCallers 35 = .ok (.aload_n 0, 1) := by decide +kernel
theorem dX6_digestCallers_36 : decode cX6_digestCallers 36 = .ok (.iload 6, 2) := by decide +kernel
theorem dX6_digestCallers_38 : decode cX6_digestCallers 38 = .ok (.iload 7, 2) := by decide +kernel
theorem dX6_digestCallers_40 : decode cX6_digestCallers 40 = .ok (.invokevirtual 353, 3) := by decide +kernel
theorem dX6_digestCallers_43 : decode cX6_digestCallers 43 = .ok (.i2l, 1) := by decide +kernel
theorem dX6_digestCallers_44 : decode cX6_digestCallers 44 = .ok (.ladd, 1) := by decide +kernel
theorem dX6_digestCallers_45 : decode cX6_digestCallers 45 = .ok (.lstore_n 3, 1) := by decide +kernel
theorem dX6_digestCallers_46 : decode cX6_digestCallers 46 = .ok (.iinc 7 1, 3) := by decide +kernel
theorem dX6_digestCallers_49 : decode cX6_digestCallers 49 = .ok (.goto (-25), 3) := by decide +kernel
theorem dX6_digestCallers_52 : decode cX6_digestCallers 52 = .ok (.ldc2_w 301, 3) := by decide +kernel
theorem dX6_digestCallers_55 : decode cX6_digestCallers 55 = .ok (.lload_n 3, 1) := by decide +kernel
theorem dX6_digestCallers_56 : decode cX6_digestCallers 56 = .ok (.lmul, 1) := by decide +kernel
theorem dX6_digestCallers_57 : decode cX6_digestCallers 57 = .ok (.aload_n 0, 1) := by decide +kernel
theorem dX6_digestCallers_58 : decode cX6_digestCallers 58 = .ok (.bipush 6, 2) := by decide +kernel
theorem dX6_digestCallers_60 : decode cX6_digestCallers 60 = .ok (.iload 6, 2) := by decide +kernel
theorem dX6_digestCallers_62 : decode cX6_digestCallers 62 = .ok (.invokevirtual 356, 3) := by decide +kernel
theorem dX6_digestCallers_65 : decode cX6_digestCallers 65 = .ok (.i2l, 1) := by decide +kernel
theorem dX6_digestCallers_66 : decode cX6_digestCallers 66 = .ok (.ladd, 1) := by decide +kernel
theorem dX6_digestCallers_67 : decode cX6_digestCallers 67 = .ok (.lstore_n 3, 1) := by decide +kernel
theorem dX6_digestCallers_68 : decode cX6_digestCallers 68 = .ok (.ldc2_w 301, 3) := by decide +kernel
theorem dX6_digestCallers_71 : decode cX6_digestCallers 71 = .ok (.lload_n 3, 1) := by decide +kernel
theorem dX6_digestCallers_72 : decode cX6_digestCallers 72 = .ok (.lmul, 1) := by decide +kernel
theorem dX6_digestCallers_73 : decode cX6_digestCallers 73 = .ok (.aload_n 0, 1) := by decide +kernel
theorem dX6_digestCallers_74 : decode cX6_digestCallers 74 = .ok (.bipush 14, 2) := by decide +kernel
theorem dX6_digestCallers_76 : decode cX6_digestCallers 76 = .ok (.iload 6, 2) := by decide +kernel
theorem dX6_digestCallers_78 : decode cX6_digestCallers 78 = .ok (.invokevirtual 356, 3) := by decide +kernel
theorem dX6_digestCallers_81 : decode cX6_digestCallers 81 = .ok (.i2l, 1) := by decide +kernel
theorem dX6_digestCallers_82 : decode cX6_digestCallers 82 = .ok (.ladd, 1) := by decide +kernel
theorem dX6_digestCallers_83 : decode cX6_digestCallers 83 = .ok (.lstore_n 3, 1) := by decide +kernel
theorem dX6_digestCallers_84 : decode cX6_digestCallers 84 = .ok (.ldc2_w 301, 3) := by decide +kernel
theorem dX6_digestCallers_87 : decode cX6_digestCallers 87 = .ok (.lload_n 3, 1) := by decide +kernel
theorem dX6_digestCallers_88 : decode cX6_digestCallers 88 = .ok (.lmul, 1) := by decide +kernel
theorem dX6_digestCallers_89 : decode cX6_digestCallers 89 = .ok (.aload_n 0, 1) := by decide +kernel
theorem dX6_digestCallers_90 : decode cX6_digestCallers 90 = .ok (.bipush 23, 2) := by decide +kernel
theorem dX6_digestCallers_92 : decode cX6_digestCallers 92 = .ok (.iload 6, 2) := by decide +kernel
theorem dX6_digestCallers_94 : decode cX6_digestCallers 94 = .ok (.invokevirtual 356, 3) := by decide +kernel
theorem dX6_digestCallers_97 : decode cX6_digestCallers 97 = .ok (.i2l, 1) := by decide +kernel
theorem dX6_digestCallers_98 : decode cX6_digestCallers 98 = .ok (.ladd, 1) := by decide +kernel
theorem dX6_digestCallers_99 : decode cX6_digestCallers 99 = .ok (.lstore_n 3, 1) := by decide +kernel
theorem dX6_digestCallers_100 : decode cX6_digestCallers 100 = .ok (.ldc2_w 301, 3) := by decide +kernel
theorem dX6_digestCallers_103 : decode cX6_digestCallers 103 = .ok (.lload_n 3, 1) := by decide +kernel
theorem dX6_digestCallers_104 : decode cX6_digestCallers 104 = .ok (.lmul, 1) := by decide +kernel
theorem dX6_digestCallers_105 : decode cX6_digestCallers 105 = .ok (.aload_n 0, 1) := by decide +kernel
theorem dX6_digestCallers_106 : decode cX6_digestCallers 106 = .ok (.iload 6, 2) := by decide +kernel
theorem dX6_digestCallers_108 : decode cX6_digestCallers 108 = .ok (.invokevirtual 359, 3) := by decide +kernel
theorem dX6_digestCallers_111 : decode cX6_digestCallers 111 = .ok (.i2l, 1) := by decide +kernel
theorem dX6_digestCallers_112 : decode cX6_digestCallers 112 = .ok (.ladd, 1) := by decide +kernel
theorem dX6_digestCallers_113 : decode cX6_digestCallers 113 = .ok (.lstore_n 3, 1) := by decide +kernel
theorem dX6_digestCallers_114 : decode cX6_digestCallers 114 = .ok (.ldc2_w 301, 3) := by decide +kernel
theorem dX6_digestCallers_117 : decode cX6_digestCallers 117 = .ok (.lload_n 3, 1) := by decide +kernel
theorem dX6_digestCallers_118 : decode cX6_digestCallers 118 = .ok (.lmul, 1) := by decide +kernel
theorem dX6_digestCallers_119 : decode cX6_digestCallers 119 = .ok (.aload_n 0, 1) := by decide +kernel
theorem dX6_digestCallers_120 : decode cX6_digestCallers 120 = .ok (.iload 6, 2) := by decide +kernel
theorem dX6_digestCallers_122 : decode cX6_digestCallers 122 = .ok (.invokevirtual 362, 3) := by decide +kernel
theorem dX6_digestCallers_125 : decode cX6_digestCallers 125 = .ok (.i2l, 1) := by decide +kernel
theorem dX6_digestCallers_126 : decode cX6_digestCallers 126 = .ok (.ladd, 1) := by decide +kernel
theorem dX6_digestCallers_127 : decode cX6_digestCallers 127 = .ok (.lstore_n 3, 1) := by decide +kernel
theorem dX6_digestCallers_128 : decode cX6_digestCallers 128 = .ok (.ldc2_w 301, 3) := by decide +kernel
theorem dX6_digestCallers_131 : decode cX6_digestCallers 131 = .ok (.lload_n 3, 1) := by decide +kernel
theorem dX6_digestCallers_132 : decode cX6_digestCallers 132 = .ok (.lmul, 1) := by decide +kernel
theorem dX6_digestCallers_133 : decode cX6_digestCallers 133 = .ok (.aload_n 0, 1) := by decide +kernel
theorem dX6_digestCallers_134 : decode cX6_digestCallers 134 = .ok (.iload 6, 2) := by decide +kernel
theorem dX6_digestCallers_136 : decode cX6_digestCallers 136 = .ok (.iconst 0, 1) := by decide +kernel
theorem dX6_digestCallers_137 : decode cX6_digestCallers 137 = .ok (.invokevirtual 365, 3) := by decide +kernel
theorem dX6_digestCallers_140 : decode cX6_digestCallers 140 = .ok (.i2l, 1) := by decide +kernel
theorem dX6_digestCallers_141 : decode cX6_digestCallers 141 = .ok (.ladd, 1) := by decide +kernel
theorem dX6_digestCallers_142 : decode cX6_digestCallers 142 = .ok (.lstore_n 3, 1) := by decide +kernel
theorem dX6_digestCallers_143 : decode cX6_digestCallers 143 = .ok (.ldc2_w 301, 3) := by decide +kernel
theorem dX6_digestCallers_146 : decode cX6_digestCallers 146 = .ok (.lload_n 3, 1) := by decide +kernel
theorem dX6_digestCallers_147 : decode cX6_digestCallers 147 = .ok (.lmul, 1) := by decide +kernel
theorem dX6_digestCallers_148 : decode cX6_digestCallers 148 = .ok (.aload_n 0, 1) := by decide +kernel
theorem dX6_digestCallers_149 : decode cX6_digestCallers 149 = .ok (.iload 6, 2) := by decide +kernel
theorem dX6_digestCallers_151 : decode cX6_digestCallers 151 = .ok (.iconst 1, 1) := by decide +kernel
theorem dX6_digestCallers_152 : decode cX6_digestCallers 152 = .ok (.invokevirtual 365, 3) := by decide +kernel
theorem dX6_digestCallers_155 : decode cX6_digestCallers 155 = .ok (.i2l, 1) := by decide +kernel
theorem dX6_digestCallers_156 : decode cX6_digestCallers 156 = .ok (.ladd, 1) := by decide +kernel
theorem dX6_digestCallers_157 : decode cX6_digestCallers 157 = .ok (.lstore_n 3, 1) := by decide +kernel
theorem dX6_digestCallers_158 : decode cX6_digestCallers 158 = .ok (.ldc2_w 301, 3) := by decide +kernel
theorem dX6_digestCallers_161 : decode cX6_digestCallers 161 = .ok (.lload_n 3, 1) := by decide +kernel
theorem dX6_digestCallers_162 : decode cX6_digestCallers 162 = .ok (.lmul, 1) := by decide +kernel
theorem dX6_digestCallers_163 : decode cX6_digestCallers 163 = .ok (.aload_n 0, 1) := by decide +kernel
theorem dX6_digestCallers_164 : decode cX6_digestCallers 164 = .ok (.iload 6, 2) := by decide +kernel
theorem dX6_digestCallers_166 : decode cX6_digestCallers 166 = .ok (.invokevirtual 368, 3) := by decide +kernel
theorem dX6_digestCallers_169 : decode cX6_digestCallers 169 = .ok (.i2l, 1) := by decide +kernel
theorem dX6_digestCallers_170 : decode cX6_digestCallers 170 = .ok (.ladd, 1) := by decide +kernel
theorem dX6_digestCallers_171 : decode cX6_digestCallers 171 = .ok (.lstore_n 3, 1) := by decide +kernel
theorem dX6_digestCallers_172 : decode cX6_digestCallers 172 = .ok (.ldc2_w 301, 3) := by decide +kernel
theorem dX6_digestCallers_175 : decode cX6_digestCallers 175 = .ok (.lload_n 3, 1) := by decide +kernel
theorem dX6_digestCallers_176 : decode cX6_digestCallers 176 = .ok (.lmul, 1) := by decide +kernel
theorem dX6_digestCallers_177 : decode cX6_digestCallers 177 = .ok (.aload_n 0, 1) := by decide +kernel
theorem dX6_digestCallers_178 : decode cX6_digestCallers 178 = .ok (.iconst 5, 1) := by decide +kernel
theorem dX6_digestCallers_179 : decode cX6_digestCallers 179 = .ok (.iload 6, 2) := by decide +kernel
theorem dX6_digestCallers_181 : decode cX6_digestCallers 181 = .ok (.iconst 0, 1) := by decide +kernel
theorem dX6_digestCallers_182 : decode cX6_digestCallers 182 = .ok (.invokevirtual 371, 3) := by decide +kernel
theorem dX6_digestCallers_185 : decode cX6_digestCallers 185 = .ok (.ladd, 1) := by decide +kernel
theorem dX6_digestCallers_186 : decode cX6_digestCallers 186 = .ok (.lstore_n 3, 1) := by decide +kernel
theorem dX6_digestCallers_187 : decode cX6_digestCallers 187 = .ok (.ldc2_w 301, 3) := by decide +kernel
theorem dX6_digestCallers_190 : decode cX6_digestCallers 190 = .ok (.lload_n 3, 1) := by decide +kernel
theorem dX6_digestCallers_191 : decode cX6_digestCallers 191 = .ok (.lmul, 1) := by decide +kernel
theorem dX6_digestCallers_192 : decode cX6_digestCallers 192 = .ok (.aload_n 0, 1) := by decide +kernel
theorem dX6_digestCallers_193 : decode cX6_digestCallers 193 = .ok (.iconst 5, 1) := by decide +kernel
theorem dX6_digestCallers_194 : decode cX6_digestCallers 194 = .ok (.iload 6, 2) := by decide +kernel
theorem dX6_digestCallers_196 : decode cX6_digestCallers 196 = .ok (.iconst 1, 1) := by decide +kernel
theorem dX6_digestCallers_197 : decode cX6_digestCallers 197 = .ok (.invokevirtual 371, 3) := by decide +kernel
theorem dX6_digestCallers_200 : decode cX6_digestCallers 200 = .ok (.ladd, 1) := by decide +kernel
theorem dX6_digestCallers_201 : decode cX6_digestCallers 201 = .ok (.lstore_n 3, 1) := by decide +kernel
theorem dX6_digestCallers_202 : decode cX6_digestCallers 202 = .ok (.iinc 6 1, 3) := by decide +kernel
theorem dX6_digestCallers_205 : decode cX6_digestCallers 205 = .ok (.goto (-191), 3) := by decide +kernel
theorem dX6_digestCallers_208 : decode cX6_digestCallers 208 = .ok (.lload_n 3, 1) := by decide +kernel
theorem dX6_digestCallers_209 : decode cX6_digestCallers 209 = .ok (.lreturn, 1) := by decide +kernel
theorem dX6_digestDays_0 : decode cX6_digestDays 0 = .ok (.lload_n 1, 1) := by decide +kernel
theorem dX6_digestDays_1 : decode cX6_digestDays 1 = .ok (.lstore_n 3, 1) := by decide +kernel
theorem dX6_digestDays_2 : decode cX6_digestDays 2 = .ok (.iconst 0, 1) := by decide +kernel
theorem dX6_digestDays_3 : decode cX6_digestDays 3 = .ok (.istore 5, 2) := by decide +kernel
theorem dX6_digestDays_5 : decode cX6_digestDays 5 = .ok (.iload 5, 2) := by decide +kernel
theorem dX6_digestDays_7 : decode cX6_digestDays 7 = .ok (.bipush 24, 2) := by decide +kernel
theorem dX6_digestDays_9 : decode cX6_digestDays 9 = .ok (.if_icmp .ge 54, 3) := by decide +kernel
theorem dX6_digestDays_12 : decode cX6_digestDays 12 = .ok (.iconst 0, 1) := by decide +kernel
theorem dX6_digestDays_13 : decode cX6_digestDays 13 = .ok (.istore 6, 2) := by decide +kernel
theorem dX6_digestDays_15 : decode cX6_digestDays 15 = .ok (.iload 6, 2) := by decide +kernel
theorem dX6_digestDays_17 : decode cX6_digestDays 17 = .ok (.iconst 2, 1) := by decide +kernel
theorem dX6_digestDays_18 : decode cX6_digestDays 18 = .ok (.if_icmp .gt 25, 3) := by decide +kernel
theorem dX6_digestDays_21 : decode cX6_digestDays 21 = .ok (.ldc2_w 301, 3) := by decide +kernel
theorem dX6_digestDays_24 : decode cX6_digestDays 24 = .ok (.lload_n 3, 1) := by decide +kernel
theorem dX6_digestDays_25 : decode cX6_digestDays 25 = .ok (.lmul, 1) := by decide +kernel
theorem dX6_digestDays_26 : decode cX6_digestDays 26 = .ok (.aload_n 0, 1) := by decide +kernel
theorem dX6_digestDays_27 : decode cX6_digestDays 27 = .ok (.iload 5, 2) := by decide +kernel
theorem dX6_digestDays_29 : decode cX6_digestDays 29 = .ok (.iload 6, 2) := by decide +kernel
theorem dX6_digestDays_31 : decode cX6_digestDays 31 = .ok (.invokevirtual 374, 3) := by decide +kernel
theorem dX6_digestDays_34 : decode cX6_digestDays 34 = .ok (.i2l, 1) := by decide +kernel
theorem dX6_digestDays_35 : decode cX6_digestDays 35 = .ok (.ladd, 1) := by decide +kernel
theorem dX6_digestDays_36 : decode cX6_digestDays 36 = .ok (.lstore_n 3, 1) := by decide +kernel
theorem dX6_digestDays_37 : decode cX6_digestDays 37 = .ok (.iinc 6 1, 3) := by decide +kernel
theorem dX6_digestDays_40 : decode cX6_digestDays 40 = .ok (.goto (-25), 3) := by decide +kernel
theorem dX6_digestDays_43 : decode cX6_digestDays 43 = .ok (.ldc2_w 301, 3) := by decide +kernel
theorem dX6_digestDays_46 : decode cX6_digestDays 46 = .ok (.lload_n 3, 1) := by decide +kernel
theorem dX6_digestDays_47 : decode cX6_digestDays 47 = .ok (.lmul, 1) := by decide +kernel
theorem dX6_digestDays_48 : decode cX6_digestDays 48 = .ok (.aload_n 0, 1) := by decide +kernel
theorem dX6_digestDays_49 : decode cX6_digestDays 49 = .ok (.iload 5, 2) := by decide +kernel
theorem dX6_digestDays_51 : decode cX6_digestDays 51 = .ok (.invokevirtual 377, 3) := by decide +kernel
theorem dX6_digestDays_54 : decode cX6_digestDays 54 = .ok (.i2l, 1) := by decide +kernel
theorem dX6_digestDays_55 : decode cX6_digestDays 55 = .ok (.ladd, 1) := by decide +kernel
theorem dX6_digestDays_56 : decode cX6_digestDays 56 = .ok (.lstore_n 3, 1) := by decide +kernel
theorem dX6_digestDays_57 : decode cX6_digestDays 57 = .ok (.iinc 5 1, 3) := by decide +kernel
theorem dX6_digestDays_60 : decode cX6_digestDays 60 = .ok (.goto (-55), 3) := by decide +kernel
theorem dX6_digestDays_63 : decode cX6_digestDays 63 = .ok (.lload_n 3, 1) := by decide +kernel
theorem dX6_digestDays_64 : decode cX6_digestDays 64 = .ok (.lreturn, 1) := by decide +kernel
theorem dX6_within_0 : decode cX6_within 0 = .ok (.iload_n 0, 1) := by decide +kernel
theorem dX6_within_1 : decode cX6_within 1 = .ok (.iload_n 1, 1) := by decide +kernel
theorem dX6_within_2 : decode cX6_within 2 = .ok (.if_icmp .lt 12, 3) := by decide +kernel
theorem dX6_within_5 : decode cX6_within 5 = .ok (.iload_n 0, 1) := by decide +kernel
theorem dX6_within_6 : decode cX6_within 6 = .ok (.iload_n 2, 1) := by decide +kernel
theorem dX6_within_7 : decode cX6_within 7 = .ok (.if_icmp .gt 7, 3) := by decide +kernel
theorem dX6_within_10 : decode cX6_within 10 = .ok (.iconst 1, 1) := by decide +kernel
theorem dX6_within_11 : decode cX6_within 11 = .ok (.goto 4, 3) := by decide +kernel
theorem dX6_within_14 : decode cX6_within 14 = .ok (.iconst 0, 1) := by decide +kernel
theorem dX6_within_15 : decode cX6_within 15 = .ok (.ireturn, 1) := by decide +kernel
theorem dX6_isText_0 : decode cX6_isText 0 = .ok (.iload_n 0, 1) := by decide +kernel
theorem dX6_isText_1 : decode cX6_isText 1 = .ok (.iconst 0, 1) := by decide +kernel
theorem dX6_isText_2 : decode cX6_isText 2 = .ok (.iconst 1, 1) := by decide +kernel
theorem dX6_isText_3 : decode cX6_isText 3 = .ok (.invokestatic 75, 3) := by decide +kernel
theorem dX6_isText_6 : decode cX6_isText 6 = .ok (.ireturn, 1) := by decide +kernel
theorem dX6_isDay_0 : decode cX6_isDay 0 = .ok (.iload_n 0, 1) := by decide +kernel
theorem dX6_isDay_1 : decode cX6_isDay 1 = .ok (.iconst 0, 1) := by decide +kernel
theorem dX6_isDay_2 : decode cX6_isDay 2 = .ok (.bipush 23, 2) := by decide +kernel
theorem dX6_isDay_4 : decode cX6_isDay 4 = .ok (.invokestatic 75, 3) := by decide +kernel
theorem dX6_isDay_7 : decode cX6_isDay 7 = .ok (.ireturn, 1) := by decide +kernel
theorem dX6_isSheet_0 : decode cX6_isSheet 0 = .ok (.iload_n 0, 1) := by decide +kernel
theorem dX6_isSheet_1 : decode cX6_isSheet 1 = .ok (.iconst 0, 1) := by decide +kernel
theorem dX6_isSheet_2 : decode cX6_isSheet 2 = .ok (.iconst 3, 1) := by decide +kernel
theorem dX6_isSheet_3 : decode cX6_isSheet 3 = .ok (.invokestatic 75, 3) := by decide +kernel
theorem dX6_isSheet_6 : decode cX6_isSheet 6 = .ok (.ireturn, 1) := by decide +kernel
theorem dX6_isForm_0 : decode cX6_isForm 0 = .ok (.iload_n 0, 1) := by decide +kernel
theorem dX6_isForm_1 : decode cX6_isForm 1 = .ok (.iconst 0, 1) := by decide +kernel
theorem dX6_isForm_2 : decode cX6_isForm 2 = .ok (.iconst 2, 1) := by decide +kernel
theorem dX6_isForm_3 : decode cX6_isForm 3 = .ok (.invokestatic 75, 3) := by decide +kernel
theorem dX6_isForm_6 : decode cX6_isForm 6 = .ok (.ireturn, 1) := by decide +kernel
theorem dX6_placeOfBit_0 : decode cX6_placeOfBit 0 = .ok (.iconst 0, 1) := by decide +kernel
theorem dX6_placeOfBit_1 : decode cX6_placeOfBit 1 = .ok (.istore_n 2, 1) := by decide +kernel
theorem dX6_placeOfBit_2 : decode cX6_placeOfBit 2 = .ok (.iconst 0, 1) := by decide +kernel
theorem dX6_placeOfBit_3 : decode cX6_placeOfBit 3 = .ok (.istore_n 3, 1) := by decide +kernel
theorem dX6_placeOfBit_4 : decode cX6_placeOfBit 4 = .ok (.iload_n 3, 1) := by decide +kernel
theorem dX6_placeOfBit_5 : decode cX6_placeOfBit 5 = .ok (.bipush 8, 2) := by decide +kernel
theorem dX6_placeOfBit_7 : decode cX6_placeOfBit 7 = .ok (.if_icmp .ge 27, 3) := by decide +kernel
theorem dX6_placeOfBit_10 : decode cX6_placeOfBit 10 = .ok (.iload_n 0, 1) := by decide +kernel
theorem dX6_placeOfBit_11 : decode cX6_placeOfBit 11 = .ok (.iload_n 3, 1) := by decide +kernel
theorem dX6_placeOfBit_12 : decode cX6_placeOfBit 12 = .ok (.ishr, 1) := by decide +kernel
theorem dX6_placeOfBit_13 : decode cX6_placeOfBit 13 = .ok (.iconst 1, 1) := by decide +kernel
theorem dX6_placeOfBit_14 : decode cX6_placeOfBit 14 = .ok (.iand, 1) := by decide +kernel
theorem dX6_placeOfBit_15 : decode cX6_placeOfBit 15 = .ok (.ifCond .eq 13, 3) := by decide +kernel
theorem dX6_placeOfBit_18 : decode cX6_placeOfBit 18 = .ok (.iload_n 2, 1) := by decide +kernel
theorem dX6_placeOfBit_19 : decode cX6_placeOfBit 19 = .ok (.iload_n 1, 1) := by decide +kernel
theorem dX6_placeOfBit_20 : decode cX6_placeOfBit 20 = .ok (.if_icmp .ne 5, 3) := by decide +kernel
theorem dX6_placeOfBit_23 : decode cX6_placeOfBit 23 = .ok (.iload_n 3, 1) := by decide +kernel
theorem dX6_placeOfBit_24 : decode cX6_placeOfBit 24 = .ok (.ireturn, 1) := by decide +kernel
theorem dX6_placeOfBit_25 : decode cX6_placeOfBit 25 = .ok (.iinc 2 1, 3) := by decide +kernel
theorem dX6_placeOfBit_28 : decode cX6_placeOfBit 28 = .ok (.iinc 3 1, 3) := by decide +kernel
theorem dX6_placeOfBit_31 : decode cX6_placeOfBit 31 = .ok (.goto (-27), 3) := by decide +kernel
theorem dX6_placeOfBit_34 : decode cX6_placeOfBit 34 = .ok (.iconst (-1), 1) := by decide +kernel
theorem dX6_placeOfBit_35 : decode cX6_placeOfBit 35 = .ok (.ireturn, 1) := by decide +kernel
theorem dX6_found_0 : decode cX6_found 0 = .ok (.aload_n 0, 1) := by decide +kernel
theorem dX6_found_1 : decode cX6_found 1 = .ok (.iload_n 1, 1) := by decide +kernel
theorem dX6_found_2 : decode cX6_found 2 = .ok (.putfield 67, 3) := by decide +kernel
theorem dX6_found_5 : decode cX6_found 5 = .ok (.bipush (-10), 2) := by decide +kernel
theorem dX6_found_7 : decode cX6_found 7 = .ok (.iload_n 1, 1) := by decide +kernel
theorem dX6_found_8 : decode cX6_found 8 = .ok (.isub, 1) := by decide +kernel
theorem dX6_found_9 : decode cX6_found 9 = .ok (.ireturn, 1) := by decide +kernel
theorem dX6_addCard_0 : decode cX6_addCard 0 = .ok (.iload_n 1, 1) := by decide +kernel
theorem dX6_addCard_1 : decode cX6_addCard 1 = .ok (.invokestatic 150, 3) := by decide +kernel
theorem dX6_addCard_4 : decode cX6_addCard 4 = .ok (.ifCond .eq 13, 3) := by decide +kernel
theorem dX6_addCard_7 : decode cX6_addCard 7 = .ok (.iload_n 2, 1) := by decide +kernel
theorem dX6_addCard_8 : decode cX6_addCard 8 = .ok (.iconst 0, 1) := by decide +kernel
theorem dX6_addCard_9 : decode cX6_addCard 9 = .ok (.bipush 7, 2) := by decide +kernel
theorem dX6_addCard_11 : decode cX6_addCard 11 = .ok (.invokestatic 75, 3) := by decide +kernel
theorem dX6_addCard_14 : decode cX6_addCard 14 = .ok (.ifCond .ne 6, 3) := by decide +kernel
theorem dX6_addCard_17 : decode cX6_addCard 17 = .ok (.bipush (-2), 2) := by decide +kernel
theorem dX6_addCard_19 : decode cX6_addCard 19 = .ok (.ireturn, 1) := by decide +kernel
theorem dX6_addCard_20 : decode cX6_addCard 20 = .ok (.aload_n 0, 1) := by decide +kernel
theorem dX6_addCard_21 : decode cX6_addCard 21 = .ok (.getfield 28, 3) := by decide +kernel
theorem dX6_addCard_24 : decode cX6_addCard 24 = .ok (.getfield 135, 3) := by decide +kernel
theorem dX6_addCard_27 : decode cX6_addCard 27 = .ok (.bipush 8, 2) := by decide +kernel
theorem dX6_addCard_29 : decode cX6_addCard 29 = .ok (.if_icmp .lt 6, 3) := by decide +kernel
theorem dX6_addCard_32 : decode cX6_addCard 32 = .ok (.bipush (-4), 2) := by decide +kernel
theorem dX6_addCard_34 : decode cX6_addCard 34 = .ok (.ireturn, 1) := by decide +kernel
theorem dX6_addCard_35 : decode cX6_addCard 35 = .ok (.aload_n 0, 1) := by decide +kernel
theorem dX6_addCard_36 : decode cX6_addCard 36 = .ok (.iconst 0, 1) := by decide +kernel
theorem dX6_addCard_37 : decode cX6_addCard 37 = .ok (.putfield 63, 3) := by decide +kernel
theorem dX6_addCard_40 : decode cX6_addCard 40 = .ok (.aload_n 0, 1) := by decide +kernel
theorem dX6_addCard_41 : decode cX6_addCard 41 = .ok (.getfield 28, 3) := by decide +kernel
theorem dX6_addCard_44 : decode cX6_addCard 44 = .ok (.iload_n 1, 1) := by decide +kernel
theorem dX6_addCard_45 : decode cX6_addCard 45 = .ok (.iload_n 2, 1) := by decide +kernel
theorem dX6_addCard_46 : decode cX6_addCard 46 = .ok (.invokevirtual 380, 3) := by decide +kernel
theorem dX6_addCard_49 : decode cX6_addCard 49 = .ok (.ireturn, 1) := by decide +kernel
theorem dX6_told_0 : decode cX6_told 0 = .ok (.aload_n 0, 1) := by decide +kernel
theorem dX6_told_1 : decode cX6_told 1 = .ok (.getfield 63, 3) := by decide +kernel
theorem dX6_told_4 : decode cX6_told 4 = .ok (.ifCond .ne 73, 3) := by decide +kernel
theorem dX6_told_7 : decode cX6_told 7 = .ok (.aload_n 0, 1) := by decide +kernel
theorem dX6_told_8 : decode cX6_told 8 = .ok (.getfield 9, 3) := by decide +kernel
theorem dX6_told_11 : decode cX6_told 11 = .ok (.iconst 0, 1) := by decide +kernel
theorem dX6_told_12 : decode cX6_told 12 = .ok (.aaload, 1) := by decide +kernel
theorem dX6_told_13 : decode cX6_told 13 = .ok (.astore_n 1, 1) := by decide +kernel
theorem dX6_told_14 : decode cX6_told 14 = .ok (.aload_n 0, 1) := by decide +kernel
theorem dX6_told_15 : decode cX6_told 15 = .ok (.getfield 9, 3) := by decide +kernel
theorem dX6_told_18 : decode cX6_told 18 = .ok (.iconst 1, 1) := by decide +kernel
theorem dX6_told_19 : decode cX6_told 19 = .ok (.aaload, 1) := by decide +kernel
theorem dX6_told_20 : decode cX6_told 20 = .ok (.astore_n 2, 1) := by decide +kernel
theorem dX6_told_21 : decode cX6_told 21 = .ok (.aload_n 0, 1) := by decide +kernel
theorem dX6_told_22 : decode cX6_told 22 = .ok (.getfield 49, 3) := by decide +kernel
theorem dX6_told_25 : decode cX6_told 25 = .ok (.aload_n 1, 1) := by decide +kernel
theorem dX6_told_26 : decode cX6_told 26 = .ok (.aload_n 1, 1) := by decide +kernel
theorem dX6_told_27 : decode cX6_told 27 = .ok (.invokevirtual 381, 3) := by decide +kernel
theorem dX6_told_30 : decode cX6_told 30 = .ok (.invokevirtual 384, 3) := by decide +kernel
theorem dX6_told_33 : decode cX6_told 33 = .ok (.aload_n 0, 1) := by decide +kernel
theorem dX6_told_34 : decode cX6_told 34 = .ok (.getfield 49, 3) := by decide +kernel
theorem dX6_told_37 : decode cX6_told 37 = .ok (.aload_n 2, 1) := by decide +kernel
theorem dX6_told_38 : decode cX6_told 38 = .ok (.aload_n 2, 1) := by decide +kernel
theorem dX6_told_39 : decode cX6_told 39 = .ok (.invokevirtual 381, 3) := by decide +kernel
theorem dX6_told_42 : decode cX6_told 42 = .ok (.invokevirtual 388, 3) := by decide +kernel
theorem dX6_told_45 : decode cX6_told 45 = .ok (.aload_n 0, 1) := by decide +kernel
theorem dX6_told_46 : decode cX6_told 46 = .ok (.getfield 28, 3) := by decide +kernel
theorem dX6_told_49 : decode cX6_told 49 = .ok (.iconst 0, 1) := by decide +kernel
theorem dX6_told_50 : decode cX6_told 50 = .ok (.aload_n 0, 1) := by decide +kernel
theorem dX6_told_51 : decode cX6_told 51 = .ok (.getfield 49, 3) := by decide +kernel
theorem dX6_told_54 : decode cX6_told 54 = .ok (.invokevirtual 221, 3) := by decide +kernel
theorem dX6_told_57 : decode cX6_told 57 = .ok (.aload_n 0, 1) := by decide +kernel
theorem dX6_told_58 : decode cX6_told 58 = .ok (.getfield 49, 3) := by decide +kernel
theorem dX6_told_61 : decode cX6_told 61 = .ok (.invokevirtual 198, 3) := by decide +kernel
theorem dX6_told_64 : decode cX6_told 64 = .ok (.aload_n 0, 1) := by decide +kernel
theorem dX6_told_65 : decode cX6_told 65 = .ok (.getfield 59, 3) := by decide +kernel
theorem dX6_told_68 : decode cX6_told 68 = .ok (.iconst 0, 1) := by decide +kernel
theorem dX6_told_69 : decode cX6_told 69 = .ok (.putfield 244, 3) := by decide +kernel
theorem dX6_told_72 : decode cX6_told 72 = .ok (.aload_n 0, 1) := by decide +kernel
theorem dX6_told_73 : decode cX6_told 73 = .ok (.iconst 1, 1) := by decide +kernel
theorem dX6_told_74 : decode cX6_told 74 = .ok (.putfield 63, 3) := by decide +kernel
theorem dX6_told_77 : decode cX6_told 77 = .ok (.aload_n 0, 1) := by decide +kernel
theorem dX6_told_78 : decode cX6_told 78 = .ok (.getfield 49, 3) := by decide +kernel
theorem dX6_told_81 : decode cX6_told 81 = .ok (.areturn, 1) := by decide +kernel
theorem dX6_noFrostWithout_0 : decode cX6_noFrostWithout 0 = .ok (.aload_n 0, 1) := by decide +kernel
theorem dX6_noFrostWithout_1 : decode cX6_noFrostWithout 1 = .ok (.getfield 28, 3) := by decide +kernel
theorem dX6_noFrostWithout_4 : decode cX6_noFrostWithout 4 = .ok (.iload_n 1, 1) := by decide +kernel
theorem dX6_noFrostWithout_5 : decode cX6_noFrostWithout 5 = .ok (.aload_n 0, 1) := by decide +kernel
theorem dX6_noFrostWithout_6 : decode cX6_noFrostWithout 6 = .ok (.getfield 53, 3) := by decide +kernel
theorem dX6_noFrostWithout_9 : decode cX6_noFrostWithout 9 = .ok (.invokevirtual 221, 3) := by decide +kernel
theorem dX6_noFrostWithout_12 : decode cX6_noFrostWithout 12 = .ok (.aload_n 0, 1) := by decide +kernel
theorem dX6_noFrostWithout_13 : decode cX6_noFrostWithout 13 = .ok (.getfield 53, 3) := by decide +kernel
theorem dX6_noFrostWithout_16 : decode cX6_noFrostWithout 16 = .ok (.invokevirtual 198, 3) := by decide +kernel
theorem dX6_noFrostWithout_19 : decode cX6_noFrostWithout 19 = .ok (.aload_n 0, 1) := by decide +kernel
theorem dX6_noFrostWithout_20 : decode cX6_noFrostWithout 20 = .ok (.getfield 53, 3) := by decide +kernel
theorem dX6_noFrostWithout_23 : decode cX6_noFrostWithout 23 = .ok (.iconst 1, 1) := by decide +kernel
theorem dX6_noFrostWithout_24 : decode cX6_noFrostWithout 24 = .ok (.invokevirtual 391, 3) := by decide +kernel
theorem dX6_noFrostWithout_27 : decode cX6_noFrostWithout 27 = .ok (.ifCond .ne 7, 3) := by decide +kernel
theorem dX6_noFrostWithout_30 : decode cX6_noFrostWithout 30 = .ok (.iconst 1, 1) := by decide +kernel
theorem dX6_noFrostWithout_31 : decode cX6_noFrostWithout 31 = .ok (.goto 4, 3) := by decide +kernel
theorem dX6_noFrostWithout_34 : decode cX6_noFrostWithout 34 = .ok (.iconst 0, 1) := by decide +kernel
theorem dX6_noFrostWithout_35 : decode cX6_noFrostWithout 35 = .ok (.ireturn, 1) := by decide +kernel
theorem dX6_cardsToBurn_0 : decode cX6_cardsToBurn 0 = .ok (.aload_n 0, 1) := by decide +kernel
theorem dX6_cardsToBurn_1 : decode cX6_cardsToBurn 1 = .ok (.getfield 53, 3) := by decide +kernel
theorem dX6_cardsToBurn_4 : decode cX6_cardsToBurn 4 = .ok (.aload_n 1, 1) := by decide +kernel
theorem dX6_cardsToBurn_5 : decode cX6_cardsToBurn 5 = .ok (.invokevirtual 190, 3) := by decide +kernel
theorem dX6_cardsToBurn_8 : decode cX6_cardsToBurn 8 = .ok (.aload_n 0, 1) := by decide +kernel
theorem dX6_cardsToBurn_9 : decode cX6_cardsToBurn 9 = .ok (.iconst 0, 1) := by decide +kernel
theorem dX6_cardsToBurn_10 : decode cX6_cardsToBurn 10 = .ok (.invokevirtual 394, 3) := by decide +kernel
theorem dX6_cardsToBurn_13 : decode cX6_cardsToBurn 13 = .ok (.ifCond .eq 5, 3) := by decide +kernel
theorem dX6_cardsToBurn_16 : decode cX6_cardsToBurn 16 = .ok (.iconst 0, 1) := by decide +kernel
theorem dX6_cardsToBurn_17 : decode cX6_cardsToBurn 17 = .ok (.ireturn, 1) := by decide +kernel
theorem dX6_cardsToBurn_18 : decode cX6_cardsToBurn 18 = .ok (.iconst 0, 1) := by decide +kernel
theorem dX6_cardsToBurn_19 : decode cX6_cardsToBurn 19 = .ok (.istore_n 2, 1) := by decide +kernel
theorem dX6_cardsToBurn_20 : decode cX6_cardsToBurn 20 = .ok (.iload_n 2, 1) := by decide +kernel
theorem dX6_cardsToBurn_21 : decode cX6_cardsToBurn 21 = .ok (.aload_n 0, 1) := by decide +kernel
theorem dX6_cardsToBurn_22 : decode cX6_cardsToBurn 22 = .ok (.getfield 28, 3) := by decide +kernel
theorem dX6_cardsToBurn_25 : decode cX6_cardsToBurn 25 = .ok (.getfield 135, 3) := by decide +kernel
theorem dX6_cardsToBurn_28 : decode cX6_cardsToBurn 28 = .ok (.if_icmp .ge 23, 3) := by decide +kernel
theorem dX6_cardsToBurn_31 : decode cX6_cardsToBurn 31 = .ok (.aload_n 0, 1) := by decide +kernel
theorem dX6_cardsToBurn_32 : decode cX6_cardsToBurn 32 = .ok (.iconst 1, 1) := by decide +kernel
theorem dX6_cardsToBurn_33 : decode cX6_cardsToBurn 33 = .ok (.iload_n 2, 1) := by decide +kernel
theorem dX6_cardsToBurn_34 : decode cX6_cardsToBurn 34 = .ok (.ishl, 1) := by decide +kernel
theorem dX6_cardsToBurn_35 : decode cX6_cardsToBurn 35 = .ok (.invokevirtual 394, 3) := by decide +kernel
theorem dX6_cardsToBurn_38 : decode cX6_cardsToBurn 38 = .ok (.ifCond .eq 7, 3) := by decide +kernel
theorem dX6_cardsToBurn_41 : decode cX6_cardsToBurn 41 = .ok (.iconst 1, 1) := by decide +kernel
theorem dX6_cardsToBurn_42 : decode cX6_cardsToBurn 42 = .ok (.iload_n 2, 1) := by decide +kernel
theorem dX6_cardsToBurn_43 : decode cX6_cardsToBurn 43 = .ok (.ishl, 1) := by decide +kernel
theorem dX6_cardsToBurn_44 : decode cX6_cardsToBurn 44 = .ok (.ireturn, 1) := by decide +kernel
theorem dX6_cardsToBurn_45 : decode cX6_cardsToBurn 45 = .ok (.iinc 2 1, 3) := by decide +kernel
theorem dX6_cardsToBurn_48 : decode cX6_cardsToBurn 48 = .ok (.goto (-28), 3) := by decide +kernel
theorem dX6_cardsToBurn_51 : decode cX6_cardsToBurn 51 = .ok (.iconst 0, 1) := by decide +kernel
theorem dX6_cardsToBurn_52 : decode cX6_cardsToBurn 52 = .ok (.istore_n 2, 1) := by decide +kernel
theorem dX6_cardsToBurn_53 : decode cX6_cardsToBurn 53 = .ok (.iload_n 2, 1) := by decide +kernel
theorem dX6_cardsToBurn_54 : decode cX6_cardsToBurn 54 = .ok (.aload_n 0, 1) := by decide +kernel
theorem dX6_cardsToBurn_55 : decode cX6_cardsToBurn 55 = .ok (.getfield 28, 3) := by decide +kernel
theorem dX6_cardsToBurn_58 : decode cX6_cardsToBurn 58 = .ok (.getfield 135, 3) := by decide +kernel
theorem dX6_cardsToBurn_61 : decode cX6_cardsToBurn 61 = .ok (.if_icmp .ge 52, 3) := by decide +kernel
theorem dX6_cardsToBurn_64 : decode cX6_cardsToBurn 64 = .ok (.iload_n 2, 1) := by decide +kernel
theorem dX6_cardsToBurn_65 : decode cX6_cardsToBurn 65 = .ok (.iconst 1, 1) := by decide +kernel
theorem dX6_cardsToBurn_66 : decode cX6_cardsToBurn 66 = .ok (.iadd, 1) := by decide +kernel
theorem dX6_cardsToBurn_67 : decode cX6_cardsToBurn 67 = .ok (.istore_n 3, 1) := by decide +kernel
theorem dX6_cardsToBurn_68 : decode cX6_cardsToBurn 68 = .ok (.iload_n 3, 1) := by decide +kernel
theorem dX6_cardsToBurn_69 : decode cX6_cardsToBurn 69 = .ok (.aload_n 0, 1) := by decide +kernel
theorem dX6_cardsToBurn_70 : decode cX6_cardsToBurn 70 = .ok (.getfield 28, 3) := by decide +kernel
theorem dX6_cardsToBurn_73 : decode cX6_cardsToBurn 73 = .ok (.getfield 135, 3) := by decide +kernel
theorem dX6_cardsToBurn_76 : decode cX6_cardsToBurn 76 = .ok (.if_icmp .ge 31, 3) := by decide +kernel
theorem dX6_cardsToBurn_79 : decode cX6_cardsToBurn 79 = .ok (.aload_n 0, 1) := by decide +kernel
theorem dX6_cardsToBurn_80 : decode cX6_cardsToBurn 80 = .ok (.iconst 1, 1) := by decide +kernel
theorem dX6_cardsToBurn_81 : decode cX6_cardsToBurn 81 = .ok (.iload_n 2, 1) := by decide +kernel
theorem dX6_cardsToBurn_82 : decode cX6_cardsToBurn 82 = .ok (.ishl, 1) := by decide +kernel
theorem dX6_cardsToBurn_83 : decode cX6_cardsToBurn 83 = .ok (.iconst 1, 1) := by decide +kernel
theorem dX6_cardsToBurn_84 : decode cX6_cardsToBurn 84 = .ok (.iload_n 3, 1) := by decide +kernel
theorem dX6_cardsToBurn_85 : decode cX6_cardsToBurn 85 = .ok (.ishl, 1) := by decide +kernel
theorem dX6_cardsToBurn_86 : decode cX6_cardsToBurn 86 = .ok (.ior, 1) := by decide +kernel
theorem dX6_cardsToBurn_87 : decode cX6_cardsToBurn 87 = .ok (.invokevirtual 394, 3) := by decide +kernel
theorem dX6_cardsToBurn_90 : decode cX6_cardsToBurn 90 = .ok (.ifCond .eq 11, 3) := by decide +kernel
theorem dX6_cardsToBurn_93 : decode cX6_cardsToBurn 93 = .ok (.iconst 1, 1) := by decide +kernel
theorem dX6_cardsToBurn_94 : decode cX6_cardsToBurn 94 = .ok (.iload_n 2, 1) := by decide +kernel
theorem dX6_cardsToBurn_95 : decode cX6_cardsToBurn 95 = .ok (.ishl, 1) := by decide +kernel
theorem dX6_cardsToBurn_96 : decode cX6_cardsToBurn 96 = .ok (.iconst 1, 1) := by decide +kernel
theorem dX6_cardsToBurn_97 : decode cX6_cardsToBurn 97 = .ok (.iload_n 3, 1) := by decide +kernel
theorem dX6_cardsToBurn_98 : decode cX6_cardsToBurn 98 = .ok (.ishl, 1) := by decide +kernel
theorem dX6_cardsToBurn_99 : decode cX6_cardsToBurn 99 = .ok (.ior, 1) := by decide +kernel
theorem dX6_cardsToBurn_100 : decode cX6_cardsToBurn 100 = .ok (.ireturn, 1) := by decide +kernel
theorem dX6_cardsToBurn_101 : decode cX6_cardsToBurn 101 = .ok (.iinc 3 1, 3) := by decide +kernel
theorem dX6_cardsToBurn_104 : decode cX6_cardsToBurn 104 = .ok (.goto (-36), 3) := by decide +kernel
theorem dX6_cardsToBurn_107 : decode cX6_cardsToBurn 107 = .ok (.iinc 2 1, 3) := by decide +kernel
theorem dX6_cardsToBurn_110 : decode cX6_cardsToBurn 110 = .ok (.goto (-57), 3) := by decide +kernel
theorem dX6_cardsToBurn_113 : decode cX6_cardsToBurn 113 = .ok (.iconst (-1), 1) := by decide +kernel
theorem dX6_cardsToBurn_114 : decode cX6_cardsToBurn 114 = .ok (.ireturn, 1) := by decide +kernel
theorem dX6_sortsThatFit_0 : decode cX6_sortsThatFit 0 = .ok (.iconst 0, 1) := by decide +kernel
theorem dX6_sortsThatFit_1 : decode cX6_sortsThatFit 1 = .ok (.istore_n 2, 1) := by decide +kernel
theorem dX6_sortsThatFit_2 : decode cX6_sortsThatFit 2 = .ok (.iconst 0, 1) := by decide +kernel
theorem dX6_sortsThatFit_3 : decode cX6_sortsThatFit 3 = .ok (.istore_n 3, 1) := by decide +kernel
theorem dX6_sortsThatFit_4 : decode cX6_sortsThatFit 4 = .ok (.iload_n 3, 1) := by decide +kernel
theorem dX6_sortsThatFit_5 : decode cX6_sortsThatFit 5 = .ok (.iconst 4, 1) := by decide +kernel
theorem dX6_sortsThatFit_6 : decode cX6_sortsThatFit 6 = .ok (.if_icmp .ge 46, 3) := by decide +kernel
theorem dX6_sortsThatFit_9 : decode cX6_sortsThatFit 9 = .ok (.aload_n 0, 1) := by decide +kernel
theorem dX6_sortsThatFit_10 : decode cX6_sortsThatFit 10 = .ok (.getfield 53, 3) := by decide +kernel
theorem dX6_sortsThatFit_13 : decode cX6_sortsThatFit 13 = .ok (.getfield 107, 3) := by decide +kernel
theorem dX6_sortsThatFit_16 : decode cX6_sortsThatFit 16 = .ok (.iload_n 1, 1) := by decide +kernel
theorem dX6_sortsThatFit_17 : decode cX6_sortsThatFit 17 = .ok (.iload_n 3, 1) := by decide +kernel
theorem dX6_sortsThatFit_18 : decode cX6_sortsThatFit 18 = .ok (.iastore, 1) := by decide +kernel
theorem dX6_sortsThatFit_19 : decode cX6_sortsThatFit 19 = .ok (.aload_n 0, 1) := by decide +kernel
theorem dX6_sortsThatFit_20 : decode cX6_sortsThatFit 20 = .ok (.getfield 53, 3) := by decide +kernel
theorem dX6_sortsThatFit_23 : decode cX6_sortsThatFit 23 = .ok (.invokevirtual 198, 3) := by decide +kernel
theorem dX6_sortsThatFit_26 : decode cX6_sortsThatFit 26 = .ok (.aload_n 0, 1) := by decide +kernel
theorem dX6_sortsThatFit_27 : decode cX6_sortsThatFit 27 = .ok (.getfield 35, 3) := by decide +kernel
theorem dX6_sortsThatFit_30 : decode cX6_sortsThatFit 30 = .ok (.aload_n 0, 1) := by decide +kernel
theorem dX6_sortsThatFit_31 : decode cX6_sortsThatFit 31 = .ok (.getfield 53, 3) := by decide +kernel
theorem dX6_sortsThatFit_34 : decode cX6_sortsThatFit 34 = .ok (.invokevirtual 225, 3) := by decide +kernel
theorem dX6_sortsThatFit_37 : decode cX6_sortsThatFit 37 = .ok (.ifCond .eq 9, 3) := by decide +kernel
theorem dX6_sortsThatFit_40 : decode cX6_sortsThatFit 40 = .ok (.iload_n 2, 1) := by decide +kernel
theorem dX6_sortsThatFit_41 : decode cX6_sortsThatFit 41 = .ok (.iconst 1, 1) := by decide +kernel
theorem dX6_sortsThatFit_42 : decode cX6_sortsThatFit 42 = .ok (.iload_n 3, 1) := by decide +kernel
theorem dX6_sortsThatFit_43 : decode cX6_sortsThatFit 43 = .ok (.ishl, 1) := by decide +kernel
theorem dX6_sortsThatFit_44 : decode cX6_sortsThatFit 44 = .ok (.ior, 1) := by decide +kernel
theorem dX6_sortsThatFit_45 : decode cX6_sortsThatFit 45 = .ok (.istore_n 2, 1) := by decide +kernel
theorem dX6_sortsThatFit_46 : decode cX6_sortsThatFit 46 = .ok (.iinc 3 1, 3) := by decide +kernel
theorem dX6_sortsThatFit_49 : decode cX6_sortsThatFit 49 = .ok (.goto (-45), 3) := by decide +kernel
theorem dX6_sortsThatFit_52 : decode cX6_sortsThatFit 52 = .ok (.iload_n 2, 1) := by decide +kernel
theorem dX6_sortsThatFit_53 : decode cX6_sortsThatFit 53 = .ok (.ireturn, 1) := by decide +kernel
theorem dX6_waitsThatFit_0 : decode cX6_waitsThatFit 0 = .ok (.iconst 0, 1) := by decide +kernel
theorem dX6_waitsThatFit_1 : decode cX6_waitsThatFit 1 = .ok (.istore_n 2, 1) := by decide +kernel
theorem dX6_waitsThatFit_2 : decode cX6_waitsThatFit 2 = .ok (.iconst 1, 1) := by decide +kernel
theorem dX6_waitsThatFit_3 : decode cX6_waitsThatFit 3 = .ok (.istore_n 3, 1) := by decide +kernel
theorem dX6_waitsThatFit_4 : decode cX6_waitsThatFit 4 = .ok (.iload_n 3, 1) := by decide +kernel
theorem dX6_waitsThatFit_5 : decode cX6_waitsThatFit 5 = .ok (.bipush 9, 2) := by decide +kernel
theorem dX6_waitsThatFit_7 : decode cX6_waitsThatFit 7 = .ok (.if_icmp .gt 46, 3) := by decide +kernel
theorem dX6_waitsThatFit_10 : decode cX6_waitsThatFit 10 = .ok (.aload_n 0, 1) := by decide +kernel
theorem dX6_waitsThatFit_11 : decode cX6_waitsThatFit 11 = .ok (.getfield 53, 3) := by decide +kernel
theorem dX6_waitsThatFit_14 : decode cX6_waitsThatFit 14 = .ok (.getfield 110, 3) := by decide +kernel
theorem dX6_waitsThatFit_17 : decode cX6_waitsThatFit 17 = .ok (.iload_n 1, 1) := by decide +kernel
theorem dX6_waitsThatFit_18 : decode cX6_waitsThatFit 18 = .ok (.iload_n 3, 1) := by decide +kernel
theorem dX6_waitsThatFit_19 : decode cX6_waitsThatFit 19 = .ok (.iastore, 1) := by decide +kernel
theorem dX6_waitsThatFit_20 : decode cX6_waitsThatFit 20 = .ok (.aload_n 0, 1) := by decide +kernel
theorem dX6_waitsThatFit_21 : decode cX6_waitsThatFit 21 = .ok (.getfield 53, 3) := by decide +kernel
theorem dX6_waitsThatFit_24 : decode cX6_waitsThatFit 24 = .ok (.invokevirtual 198, 3) := by decide +kernel
theorem dX6_waitsThatFit_27 : decode cX6_waitsThatFit 27 = .ok (.aload_n 0, 1) := by decide +kernel
theorem dX6_waitsThatFit_28 : decode cX6_waitsThatFit 28 = .ok (.getfield 35, 3) := by decide +kernel
theorem dX6_waitsThatFit_31 : decode cX6_waitsThatFit 31 = .ok (.aload_n 0, 1) := by decide +kernel
theorem dX6_waitsThatFit_32 : decode cX6_waitsThatFit 32 = .ok (.getfield 53, 3) := by decide +kernel
theorem dX6_waitsThatFit_35 : decode cX6_waitsThatFit 35 = .ok (.invokevirtual 225, 3) := by decide +kernel
theorem dX6_waitsThatFit_38 : decode cX6_waitsThatFit 38 = .ok (.ifCond .eq 9, 3) := by decide +kernel
theorem dX6_waitsThatFit_41 : decode cX6_waitsThatFit 41 = .ok (.iload_n 2, 1) := by decide +kernel
theorem dX6_waitsThatFit_42 : decode cX6_waitsThatFit 42 = .ok (.iconst 1, 1) := by decide +kernel
theorem dX6_waitsThatFit_43 : decode cX6_waitsThatFit 43 = .ok (.iload_n 3, 1) := by decide +kernel
theorem dX6_waitsThatFit_44 : decode cX6_waitsThatFit 44 = .ok (.ishl, 1) := by decide +kernel
theorem dX6_waitsThatFit_45 : decode cX6_waitsThatFit 45 = .ok (.ior, 1) := by decide +kernel
theorem dX6_waitsThatFit_46 : decode cX6_waitsThatFit 46 = .ok (.istore_n 2, 1) := by decide +kernel
theorem dX6_waitsThatFit_47 : decode cX6_waitsThatFit 47 = .ok (.iinc 3 1, 3) := by decide +kernel
theorem dX6_waitsThatFit_50 : decode cX6_waitsThatFit 50 = .ok (.goto (-46), 3) := by decide +kernel
theorem dX6_waitsThatFit_53 : decode cX6_waitsThatFit 53 = .ok (.iload_n 2, 1) := by decide +kernel
theorem dX6_waitsThatFit_54 : decode cX6_waitsThatFit 54 = .ok (.ireturn, 1) := by decide +kernel
theorem dX6_inviteByLots_0 : decode cX6_inviteByLots 0 = .ok (.iload_n 1, 1) := by decide +kernel
theorem dX6_inviteByLots_1 : decode cX6_inviteByLots 1 = .ok (.istore_n 3, 1) := by decide +kernel
theorem dX6_inviteByLots_2 : decode cX6_inviteByLots 2 = .ok (.iconst 0, 1) := by decide +kernel
theorem dX6_inviteByLots_3 : decode cX6_inviteByLots 3 = .ok (.istore 4, 2) := by decide +kernel
theorem dX6_inviteByLots_5 : decode cX6_inviteByLots 5 = .ok (.iload 4, 2) := by decide +kernel
theorem dX6_inviteByLots_7 : decode cX6_inviteByLots 7 = .ok (.iload_n 2, 1) := by decide +kernel
theorem dX6_inviteByLots_8 : decode cX6_inviteByLots 8 = .ok (.if_icmp .ge 59, 3) := by decide +kernel
theorem dX6_inviteByLots_11 : decode cX6_inviteByLots 11 = .ok (.aload_n 0, 1) := by decide +kernel
theorem dX6_inviteByLots_12 : decode cX6_inviteByLots 12 = .ok (.getfield 53, 3) := by decide +kernel
theorem dX6_inviteByLots_15 : decode cX6_inviteByLots 15 = .ok (.getfield 187, 3) := by decide +kernel
theorem dX6_inviteByLots_18 : decode cX6_inviteByLots 18 = .ok (.ifCond .le 49, 3) := by decide +kernel
theorem dX6_inviteByLots_21 : decode cX6_inviteByLots 21 = .ok (.iload_n 3, 1) := by decide +kernel
theorem dX6_inviteByLots_22 : decode cX6_inviteByLots 22 = .ok (.invokestatic 397, 3) := by decide +kernel
theorem dX6_inviteByLots_25 : decode cX6_inviteByLots 25 = .ok (.istore_n 3, 1) := by decide +kernel
theorem dX6_inviteByLots_26 : decode cX6_inviteByLots 26 = .ok (.iload_n 3, 1) := by decide +kernel
theorem dX6_inviteByLots_27 : decode cX6_inviteByLots 27 = .ok (.invokestatic 400, 3) := by decide +kernel
theorem dX6_inviteByLots_30 : decode cX6_inviteByLots 30 = .ok (.bipush 24, 2) := by decide +kernel
theorem dX6_inviteByLots_32 : decode cX6_inviteByLots 32 = .ok (.irem, 1) := by decide +kernel
theorem dX6_inviteByLots_33 : decode cX6_inviteByLots 33 = .ok (.istore 5, 2) := by decide +kernel
theorem dX6_inviteByLots_35 : decode cX6_inviteByLots 35 = .ok (.iload_n 3, 1) := by decide +kernel
theorem dX6_inviteByLots_36 : decode cX6_inviteByLots 36 = .ok (.invokestatic 397, 3) := by decide +kernel
theorem dX6_inviteByLots_39 : decode cX6_inviteByLots 39 = .ok (.istore_n 3, 1) := by decide +kernel
theorem dX6_inviteByLots_40 : decode cX6_inviteByLots 40 = .ok (.aload_n 0, 1) := by decide +kernel
theorem dX6_inviteByLots_41 : decode cX6_inviteByLots 41 = .ok (.getfield 53, 3) := by decide +kernel
theorem dX6_inviteByLots_44 : decode cX6_inviteByLots 44 = .ok (.iload 5, 2) := by decide +kernel
theorem dX6_inviteByLots_46 : decode cX6_inviteByLots 46 = .ok (.iload_n 3, 1) := by decide +kernel
theorem dX6_inviteByLots_47 : decode cX6_inviteByLots 47 = .ok (.invokestatic 400, 3) := by decide +kernel
theorem dX6_inviteByLots_50 : decode cX6_inviteByLots 50 = .ok (.aload_n 0, 1) := by decide +kernel
theorem dX6_inviteByLots_51 : decode cX6_inviteByLots 51 = .ok (.getfield 53, 3) := by decide +kernel
theorem dX6_inviteByLots_54 : decode cX6_inviteByLots 54 = .ok (.getfield 187, 3) := by decide +kernel
theorem dX6_inviteByLots_57 : decode cX6_inviteByLots 57 = .ok (.irem, 1) := by decide +kernel
theorem dX6_inviteByLots_58 : decode cX6_inviteByLots 58 = .ok (.invokevirtual 194, 3) := by decide +kernel
theorem dX6_inviteByLots_61 : decode cX6_inviteByLots 61 = .ok (.iinc 4 1, 3) := by decide +kernel
theorem dX6_inviteByLots_64 : decode cX6_inviteByLots 64 = .ok (.goto (-59), 3) := by decide +kernel
theorem dX6_inviteByLots_67 : decode cX6_inviteByLots 67 = .ok (.return_, 1) := by decide +kernel
theorem dX6_nextSeed_0 : decode cX6_nextSeed 0 = .ok (.ldc_w 403, 3) := by decide +kernel
theorem dX6_nextSeed_3 : decode cX6_nextSeed 3 = .ok (.iload_n 0, 1) := by decide +kernel
theorem dX6_nextSeed_4 : decode cX6_nextSeed 4 = .ok (.imul, 1) := by decide +kernel
theorem dX6_nextSeed_5 : decode cX6_nextSeed 5 = .ok (.sipush 12345, 3) := by decide +kernel
theorem dX6_nextSeed_8 : decode cX6_nextSeed 8 = .ok (.iadd, 1) := by decide +kernel
theorem dX6_nextSeed_9 : decode cX6_nextSeed 9 = .ok (.ireturn, 1) := by decide +kernel
theorem dX6_upperBits_0 : decode cX6_upperBits 0 = .ok (.iload_n 0, 1) := by decide +kernel
theorem dX6_upperBits_1 : decode cX6_upperBits 1 = .ok (.bipush 16, 2) := by decide +kernel
theorem dX6_upperBits_3 : decode cX6_upperBits 3 = .ok (.iushr, 1) := by decide +kernel
theorem dX6_upperBits_4 : decode cX6_upperBits 4 = .ok (.ireturn, 1) := by decide +kernel
theorem dX7_init_0 : decode cX7_init 0 = .ok (.aload_n 0, 1) := by decide +kernel
theorem dX7_init_1 : decode cX7_init 1 = .ok (.invokespecial 1, 3) := by decide +kernel
theorem dX7_init_4 : decode cX7_init 4 = .ok (.aload_n 0, 1) := by decide +kernel
theorem dX7_init_5 : decode cX7_init 5 = .ok (.iconst 2, 1) := by decide +kernel
theorem dX7_init_6 : decode cX7_init 6 = .ok (.newarray .int, 2) := by decide +kernel
theorem dX7_init_8 : decode cX7_init 8 = .ok (.putfield 7, 3) := by decide +kernel
theorem dX7_init_11 : decode cX7_init 11 = .ok (.aload_n 0, 1) := by decide +kernel
theorem dX7_init_12 : decode cX7_init 12 = .ok (.bipush 78, 2) := by decide +kernel
theorem dX7_init_14 : decode cX7_init 14 = .ok (.newarray .int, 2) := by decide +kernel
theorem dX7_init_16 : decode cX7_init 16 = .ok (.putfield 13, 3) := by decide +kernel
theorem dX7_init_19 : decode cX7_init 19 = .ok (.aload_n 0, 1) := by decide +kernel
theorem dX7_init_20 : decode cX7_init 20 = .ok (.bipush 9, 2) := by decide +kernel
theorem dX7_init_22 : decode cX7_init 22 = .ok (.newarray .int, 2) := by decide +kernel
theorem dX7_init_24 : decode cX7_init 24 = .ok (.putfield 16, 3) := by decide +kernel
theorem dX7_init_27 : decode cX7_init 27 = .ok (.aload_n 0, 1) := by decide +kernel
theorem dX7_init_28 : decode cX7_init 28 = .ok (.bipush 9, 2) := by decide +kernel
theorem dX7_init_30 : decode cX7_init 30 = .ok (.newarray .int, 2) := by decide +kernel
theorem dX7_init_32 : decode cX7_init 32 = .ok (.putfield 19, 3) := by decide +kernel
theorem dX7_init_35 : decode cX7_init 35 = .ok (.aload_n 0, 1) := by decide +kernel
theorem dX7_init_36 : decode cX7_init 36 = .ok (.bipush 9, 2) := by decide +kernel
theorem dX7_init_38 : decode cX7_init 38 = .ok (.newarray .int, 2) := by decide +kernel
theorem dX7_init_40 : decode cX7_init 40 = .ok (.putfield 22, 3) := by decide +kernel
theorem dX7_init_43 : decode cX7_init 43 = .ok (.aload_n 0, 1) := by decide +kernel
theorem dX7_init_44 : decode cX7_init 44 = .ok (.bipush 9, 2) := by decide +kernel
theorem dX7_init_46 : decode cX7_init 46 = .ok (.newarray .int, 2) := by decide +kernel
theorem dX7_init_48 : decode cX7_init 48 = .ok (.putfield 25, 3) := by decide +kernel
theorem dX7_init_51 : decode cX7_init 51 = .ok (.aload_n 0, 1) := by decide +kernel
theorem dX7_init_52 : decode cX7_init 52 = .ok (.iconst 5, 1) := by decide +kernel
theorem dX7_init_53 : decode cX7_init 53 = .ok (.newarray .int, 2) := by decide +kernel
theorem dX7_init_55 : decode cX7_init 55 = .ok (.putfield 28, 3) := by decide +kernel
theorem dX7_init_58 : decode cX7_init 58 = .ok (.aload_n 0, 1) := by decide +kernel
theorem dX7_init_59 : decode cX7_init 59 = .ok (.iconst 5, 1) := by decide +kernel
theorem dX7_init_60 : decode cX7_init 60 = .ok (.newarray .int, 2) := by decide +kernel
theorem dX7_init_62 : decode cX7_init 62 = .ok (.putfield 31, 3) := by decide +kernel
theorem dX7_init_65 : decode cX7_init 65 = .ok (.aload_n 0, 1) := by decide +kernel
theorem dX7_init_66 : decode cX7_init 66 = .ok (.iconst 5, 1) := by decide +kernel
theorem dX7_init_67 : decode cX7_init 67 = .ok (.newarray .int, 2) := by decide +kernel
theorem dX7_init_69 : decode cX7_init 69 = .ok (.putfield 34, 3) := by decide +kernel
theorem dX7_init_72 : decode cX7_init 72 = .ok (.aload_n 0, 1) := by decide +kernel
theorem dX7_init_73 : decode cX7_init 73 = .ok (.bipush 9, 2) := by decide +kernel
theorem dX7_init_75 : decode cX7_init 75 = .ok (.newarray .int, 2) := by decide +kernel
theorem dX7_init_77 : decode cX7_init 77 = .ok (.putfield 37, 3) := by decide +kernel
theorem dX7_init_80 : decode cX7_init 80 = .ok (.aload_n 0, 1) := by decide +kernel
theorem dX7_init_81 : decode cX7_init 81 = .ok (.bipush 9, 2) := by decide +kernel
theorem dX7_init_83 : decode cX7_init 83 = .ok (.newarray .int, 2) := by decide +kernel
theorem dX7_init_85 : decode cX7_init 85 = .ok (.putfield 40, 3) := by decide +kernel
theorem dX7_init_88 : decode cX7_init 88 = .ok (.aload_n 0, 1) := by decide +kernel
theorem dX7_init_89 : decode cX7_init 89 = .ok (.bipush 9, 2) := by decide +kernel
theorem dX7_init_91 : decode cX7_init 91 = .ok (.newarray .int, 2) := by decide +kernel
theorem dX7_init_93 : decode cX7_init 93 = .ok (.putfield 43, 3) := by decide +kernel
theorem dX7_init_96 : decode cX7_init 96 = .ok (.aload_n 0, 1) := by decide +kernel
theorem dX7_init_97 : decode cX7_init 97 = .ok (.bipush 9, 2) := by decide +kernel
theorem dX7_init_99 : decode cX7_init 99 = .ok (.newarray .int, 2) := by decide +kernel
theorem dX7_init_101 : decode cX7_init 101 = .ok (.putfield 46, 3) := by decide +kernel
theorem dX7_init_104 : decode cX7_init 104 = .ok (.aload_n 0, 1) := by decide +kernel
theorem dX7_init_105 : decode cX7_init 105 = .ok (.bipush 8, 2) := by decide +kernel
theorem dX7_init_107 : decode cX7_init 107 = .ok (.newarray .int, 2) := by decide +kernel
theorem dX7_init_109 : decode cX7_init 109 = .ok (.putfield 49, 3) := by decide +kernel
theorem dX7_init_112 : decode cX7_init 112 = .ok (.aload_n 0, 1) := by decide +kernel
theorem dX7_init_113 : decode cX7_init 113 = .ok (.bipush 8, 2) := by decide +kernel
theorem dX7_init_115 : decode cX7_init 115 = .ok (.newarray .int, 2) := by decide +kernel
theorem dX7_init_117 : decode cX7_init 117 = .ok (.putfield 52, 3) := by decide +kernel
theorem dX7_init_120 : decode cX7_init 120 = .ok (.aload_n 0, 1) := by decide +kernel
theorem dX7_init_121 : decode cX7_init 121 = .ok (.bipush 8, 2) := by decide +kernel
theorem dX7_init_123 : decode cX7_init 123 = .ok (.newarray .int, 2) := by decide +kernel
theorem dX7_init_125 : decode cX7_init 125 = .ok (.putfield 55, 3) := by decide +kernel
theorem dX7_init_128 : decode cX7_init 128 = .ok (.aload_n 0, 1) := by decide +kernel
theorem dX7_init_129 : decode cX7_init 129 = .ok (.sipush 192, 3) := by decide +kernel
theorem dX7_init_132 : decode cX7_init 132 = .ok (.newarray .int, 2) := by decide +kernel
theorem dX7_init_134 : decode cX7_init 134 = .ok (.putfield 58, 3) := by decide +kernel
theorem dX7_init_137 : decode cX7_init 137 = .ok (.aload_n 0, 1) := by decide +kernel
theorem dX7_init_138 : decode cX7_init 138 = .ok (.bipush 24, 2) := by decide +kernel
theorem dX7_init_140 : decode cX7_init 140 = .ok (.newarray .int, 2) := by decide +kernel
theorem dX7_init_142 : decode cX7_init 142 = .ok (.putfield 61, 3) := by decide +kernel
theorem dX7_init_145 : decode cX7_init 145 = .ok (.aload_n 0, 1) := by decide +kernel
theorem dX7_init_146 : decode cX7_init 146 = .ok (.bipush 24, 2) := by decide +kernel
theorem dX7_init_148 : decode cX7_init 148 = .ok (.newarray .int, 2) := by decide +kernel
theorem dX7_init_150 : decode cX7_init 150 = .ok (.putfield 64, 3) := by decide +kernel
theorem dX7_init_153 : decode cX7_init 153 = .ok (.aload_n 0, 1) := by decide +kernel
theorem dX7_init_154 : decode cX7_init 154 = .ok (.bipush 24, 2) := by decide +kernel
theorem dX7_init_156 : decode cX7_init 156 = .ok (.newarray .int, 2) := by decide +kernel
theorem dX7_init_158 : decode cX7_init 158 = .ok (.putfield 67, 3) := by decide +kernel
theorem dX7_init_161 : decode cX7_init 161 = .ok (.aload_n 0, 1) := by decide +kernel
theorem dX7_init_162 : decode cX7_init 162 = .ok (.iconst 2, 1) := by decide +kernel
theorem dX7_init_163 : decode cX7_init 163 = .ok (.newarray .int, 2) := by decide +kernel
theorem dX7_init_165 : decode cX7_init 165 = .ok (.putfield 70, 3) := by decide +kernel
theorem dX7_init_168 : decode cX7_init 168 = .ok (.aload_n 0, 1) := by decide +kernel
theorem dX7_init_169 : decode cX7_init 169 = .ok (.bipush 8, 2) := by decide +kernel
theorem dX7_init_171 : decode cX7_init 171 = .ok (.newarray .int, 2) := by decide +kernel
theorem dX7_init_173 : decode cX7_init 173 = .ok (.putfield 73, 3) := by decide +kernel
theorem dX7_init_176 : decode cX7_init 176 = .ok (.aload_n 0, 1) := by decide +kernel
theorem dX7_init_177 : decode cX7_init 177 = .ok (.bipush 8, 2) := by decide +kernel
theorem dX7_init_179 : decode cX7_init 179 = .ok (.newarray .int, 2) := by decide +kernel
theorem dX7_init_181 : decode cX7_init 181 = .ok (.putfield 76, 3) := by decide +kernel
theorem dX7_init_184 : decode cX7_init 184 = .ok (.aload_n 0, 1) := by decide +kernel
theorem dX7_init_185 : decode cX7_init 185 = .ok (.sipush 240, 3) := by decide +kernel
theorem dX7_init_188 : decode cX7_init 188 = .ok (.newarray .int, 2) := by decide +kernel
theorem dX7_init_190 : decode cX7_init 190 = .ok (.putfield 79, 3) := by decide +kernel
theorem dX7_init_193 : decode cX7_init 193 = .ok (.aload_n 0, 1) := by decide +kernel
theorem dX7_init_194 : decode cX7_init 194 = .ok (.iconst 4, 1) := by decide +kernel
theorem dX7_init_195 : decode cX7_init 195 = .ok (.newarray .boolean, 2) := by decide +kernel
theorem dX7_init_197 : decode cX7_init 197 = .ok (.putfield 82, 3) := by decide +kernel
theorem dX7_init_200 : decode cX7_init 200 = .ok (.aload_n 0, 1) := by decide +kernel
theorem dX7_init_201 : decode cX7_init 201 = .ok (.iconst 4, 1) := by decide +kernel
theorem dX7_init_202 : decode cX7_init 202 = .ok (.newarray .int, 2) := by decide +kernel
theorem dX7_init_204 : decode cX7_init 204 = .ok (.putfield 86, 3) := by decide +kernel
theorem dX7_init_207 : decode cX7_init 207 = .ok (.aload_n 0, 1) := by decide +kernel
theorem dX7_init_208 : decode cX7_init 208 = .ok (.iconst 4, 1) := by decide +kernel
theorem dX7_init_209 : decode cX7_init 209 = .ok (.newarray .int, 2) := by decide +kernel
theorem dX7_init_211 : decode cX7_init 211 = .ok (.putfield 89, 3) := by decide +kernel
theorem dX7_init_214 : decode cX7_init 214 = .ok (.aload_n 0, 1) := by decide +kernel
theorem dX7_init_215 : decode cX7_init 215 = .ok (.sipush 240, 3) := by decide +kernel
theorem dX7_init_218 : decode cX7_init 218 = .ok (.newarray .int, 2) := by decide +kernel
theorem dX7_init_220 : decode cX7_init 220 = .ok (.putfield 92, 3) := by decide +kernel
theorem dX7_init_223 : decode cX7_init 223 = .ok (.aload_n 0, 1) := by decide +kernel
theorem dX7_init_224 : decode cX7_init 224 = .ok (.bipush 60, 2) := by decide +kernel
theorem dX7_init_226 : decode cX7_init 226 = .ok (.newarray .int, 2) := by decide +kernel
theorem dX7_init_228 : decode cX7_init 228 = .ok (.putfield 95, 3) := by decide +kernel
theorem dX7_init_231 : decode cX7_init 231 = .ok (.return_, 1) := by decide +kernel
theorem dX7_in_0 : decode cX7_in 0 = .ok (.iload_n 0, 1) := by decide +kernel
theorem dX7_in_1 : decode cX7_in 1 = .ok (.iload_n 1, 1) := by decide +kernel
theorem dX7_in_2 : decode cX7_in 2 = .ok (.if_icmp .lt 12, 3) := by decide +kernel
theorem dX7_in_5 : decode cX7_in 5 = .ok (.iload_n 0, 1) := by decide +kernel
theorem dX7_in_6 : decode cX7_in 6 = .ok (.iload_n 2, 1) := by decide +kernel
theorem dX7_in_7 : decode cX7_in 7 = .ok (.if_icmp .gt 7, 3) := by decide +kernel
theorem dX7_in_10 : decode cX7_in 10 = .ok (.iconst 1, 1) := by decide +kernel
theorem dX7_in_11 : decode cX7_in 11 = .ok (.goto 4, 3) := by decide +kernel
theorem dX7_in_14 : decode cX7_in 14 = .ok (.iconst 0, 1) := by decide +kernel
theorem dX7_in_15 : decode cX7_in 15 = .ok (.ireturn, 1) := by decide +kernel
theorem dX7_isIn_0 : decode cX7_isIn 0 = .ok (.iload_n 0, 1) := by decide +kernel
theorem dX7_isIn_1 : decode cX7_isIn 1 = .ok (.iload_n 1, 1) := by decide +kernel
theorem dX7_isIn_2 : decode cX7_isIn 2 = .ok (.ishr, 1) := by decide +kernel
theorem dX7_isIn_3 : decode cX7_isIn 3 = .ok (.iconst 1, 1) := by decide +kernel
theorem dX7_isIn_4 : decode cX7_isIn 4 = .ok (.iand, 1) := by decide +kernel
theorem dX7_isIn_5 : decode cX7_isIn 5 = .ok (.iconst 1, 1) := by decide +kernel
theorem dX7_isIn_6 : decode cX7_isIn 6 = .ok (.if_icmp .ne 7, 3) := by decide +kernel
theorem dX7_isIn_9 : decode cX7_isIn 9 = .ok (.iconst 1, 1) := by decide +kernel
theorem dX7_isIn_10 : decode cX7_isIn 10 = .ok (.goto 4, 3) := by decide +kernel
theorem dX7_isIn_13 : decode cX7_isIn 13 = .ok (.iconst 0, 1) := by decide +kernel
theorem dX7_isIn_14 : decode cX7_isIn 14 = .ok (.ireturn, 1) := by decide +kernel
theorem dX7_no_0 : decode cX7_no 0 = .ok (.ldc2_w 98, 3) := by decide +kernel
theorem dX7_no_3 : decode cX7_no 3 = .ok (.iload_n 0, 1) := by decide +kernel
theorem dX7_no_4 : decode cX7_no 4 = .ok (.i2l, 1) := by decide +kernel
theorem dX7_no_5 : decode cX7_no 5 = .ok (.lsub, 1) := by decide +kernel
theorem dX7_no_6 : decode cX7_no 6 = .ok (.lreturn, 1) := by decide +kernel
theorem dX7_lowest_0 : decode cX7_lowest 0 = .ok (.lload_n 0, 1) := by decide +kernel
theorem dX7_lowest_1 : decode cX7_lowest 1 = .ok (.lstore 5, 2) := by decide +kernel
theorem dX7_lowest_3 : decode cX7_lowest 3 = .ok (.lload_n 2, 1) := by decide +kernel
theorem dX7_lowest_4 : decode cX7_lowest 4 = .ok (.lstore 7, 2) := by decide +kernel
theorem dX7_lowest_6 : decode cX7_lowest 6 = .ok (.lload 7, 2) := by decide +kernel
theorem dX7_lowest_8 : decode cX7_lowest 8 = .ok (.lconst 0, 1) := by decide +kernel
theorem dX7_lowest_9 : decode cX7_lowest 9 = .ok (.lcmp, 1) := by decide +kernel
theorem dX7_lowest_10 : decode cX7_lowest 10 = .ok (.ifCond .eq 21, 3) := by decide +kernel
theorem dX7_lowest_13 : decode cX7_lowest 13 = .ok (.lload 5, 2) := by decide +kernel
theorem dX7_lowest_15 : decode cX7_lowest 15 = .ok (.lload 7, 2) := by decide +kernel
theorem dX7_lowest_17 : decode cX7_lowest 17 = .ok (.lrem, 1) := by decide +kernel
theorem dX7_lowest_18 : decode cX7_lowest 18 = .ok (.lstore 9, 2) := by decide +kernel
theorem dX7_lowest_20 : decode cX7_lowest 20 = .ok (.lload 7, 2) := by decide +kernel
theorem dX7_lowest_22 : decode cX7_lowest 22 = .ok (.lstore 5, 2) := by decide +kernel
theorem dX7_lowest_24 : decode cX7_lowest 24 = .ok (.lload 9, 2) := by decide +kernel
theorem dX7_lowest_26 : decode cX7_lowest 26 = .ok (.lstore 7, 2) := by decide +kernel
theorem dX7_lowest_28 : decode cX7_lowest 28 = .ok (.goto (-22), 3) := by decide +kernel
theorem dX7_lowest_31 : decode cX7_lowest 31 = .ok (.iload 4, 2) := by decide +kernel
theorem dX7_lowest_33 : decode cX7_lowest 33 = .ok (.ifCond .ne 10, 3) := by decide +kernel
theorem dX7_lowest_36 : decode cX7_lowest 36 = .ok (.lload_n 0, 1) := by decide +kernel
theorem dX7_lowest_37 : decode cX7_lowest 37 = .ok (.lload 5, 2) := by decide +kernel
theorem dX7_lowest_39 : decode cX7_lowest 39 = .ok (.ldiv, 1) := by decide +kernel
theorem dX7_lowest_40 : decode cX7_lowest 40 = .ok (.goto 7, 3) := by decide +kernel
theorem dX7_lowest_43 : decode cX7_lowest 43 = .ok (.lload_n 2, 1) := by decide +kernel
theorem dX7_lowest_44 : decode cX7_lowest 44 = .ok (.lload 5, 2) := by decide +kernel
theorem dX7_lowest_46 : decode cX7_lowest 46 = .ok (.ldiv, 1) := by decide +kernel
theorem dX7_lowest_47 : decode cX7_lowest 47 = .ok (.lreturn, 1) := by decide +kernel
theorem dX7_isText_0 : decode cX7_isText 0 = .ok (.iload_n 0, 1) := by decide +kernel
theorem dX7_isText_1 : decode cX7_isText 1 = .ok (.iconst 0, 1) := by decide +kernel
theorem dX7_isText_2 : decode cX7_isText 2 = .ok (.iconst 1, 1) := by decide +kernel
theorem dX7_isText_3 : decode cX7_isText 3 = .ok (.invokestatic 100, 3) := by decide +kernel
theorem dX7_isText_6 : decode cX7_isText 6 = .ok (.ireturn, 1) := by decide +kernel
theorem dX7_isDay_0 : decode cX7_isDay 0 = .ok (.iload_n 0, 1) := by decide +kernel
theorem dX7_isDay_1 : decode cX7_isDay 1 = .ok (.iconst 0, 1) := by decide +kernel
theorem dX7_isDay_2 : decode cX7_isDay 2 = .ok (.bipush 23, 2) := by decide +kernel
theorem dX7_isDay_4 : decode cX7_isDay 4 = .ok (.invokestatic 100, 3) := by decide +kernel
theorem dX7_isDay_7 : decode cX7_isDay 7 = .ok (.ireturn, 1) := by decide +kernel
theorem dX7_isTwo_0 : decode cX7_isTwo 0 = .ok (.iload_n 0, 1) := by decide +kernel
theorem dX7_isTwo_1 : decode cX7_isTwo 1 = .ok (.iconst 0, 1) := by decide +kernel
theorem dX7_isTwo_2 : decode cX7_isTwo 2 = .ok (.iconst 1, 1) := by decide +kernel
theorem dX7_isTwo_3 : decode cX7_isTwo 3 = .ok (.invokestatic 100, 3) := by decide +kernel
theorem dX7_isTwo_6 : decode cX7_isTwo 6 = .ok (.ireturn, 1) := by decide +kernel
theorem dX7_type_0 : decode cX7_type 0 = .ok (.iload_n 1, 1) := by decide +kernel
theorem dX7_type_1 : decode cX7_type 1 = .ok (.invokestatic 104, 3) := by decide +kernel
theorem dX7_type_4 : decode cX7_type 4 = .ok (.ifCond .eq 14, 3) := by decide +kernel
theorem dX7_type_7 : decode cX7_type 7 = .ok (.iload_n 2, 1) := by decide +kernel
theorem dX7_type_8 : decode cX7_type 8 = .ok (.iconst 0, 1) := by decide +kernel
theorem dX7_type_9 : decode cX7_type 9 = .ok (.sipush 255, 3) := by decide +kernel
theorem dX7_type_12 : decode cX7_type 12 = .ok (.invokestatic 100, 3) := by decide +kernel
theorem dX7_type_15 : decode cX7_type 15 = .ok (.ifCond .ne 6, 3) := by decide +kernel
theorem dX7_type_18 : decode cX7_type 18 = .ok (.bipush (-2), 2) := by decide +kernel
theorem dX7_type_20 : decode cX7_type 20 = .ok (.ireturn, 1) := by decide +kernel
theorem dX7_type_21 : decode cX7_type 21 = .ok (.aload_n 0, 1) := by decide +kernel
theorem dX7_type_22 : decode cX7_type 22 = .ok (.getfield 7, 3) := by decide +kernel
theorem dX7_type_25 : decode cX7_type 25 = .ok (.iload_n 1, 1) := by decide +kernel
theorem dX7_type_26 : decode cX7_type 26 = .ok (.iaload, 1) := by decide +kernel
theorem dX7_type_27 : decode cX7_type 27 = .ok (.iload_n 1, 1) := by decide +kernel
theorem dX7_type_28 : decode cX7_type 28 = .ok (.ifCond .ne 8, 3) := by decide +kernel
theorem dX7_type_31 : decode cX7_type 31 = .ok (.bipush 39, 2) := by decide +kernel
theorem dX7_type_33 : decode cX7_type 33 = .ok (.goto 5, 3) := by decide +kernel
theorem dX7_type_36 : decode cX7_type 36 = .ok (.bipush 15, 2) := by decide +kernel
theorem dX7_type_38 : decode cX7_type 38 = .ok (.if_icmp .ne 6, 3) := by decide +kernel
theorem dX7_type_41 : decode cX7_type 41 = .ok (.bipush (-4), 2) := by decide +kernel
theorem dX7_type_43 : decode cX7_type 43 = .ok (.ireturn, 1) := by decide +kernel
theorem dX7_type_44 : decode cX7_type 44 = .ok (.aload_n 0, 1) := by decide +kernel
theorem dX7_type_45 : decode cX7_type 45 = .ok (.getfield 13, 3) := by decide +kernel
theorem dX7_type_48 : decode cX7_type 48 = .ok (.bipush 39, 2) := by decide +kernel
theorem dX7_type_50 : decode cX7_type 50 = .ok (.iload_n 1, 1) := by decide +kernel
theorem dX7_type_51 : decode cX7_type 51 = .ok (.imul, 1) := by decide +kernel
theorem dX7_type_52 : decode cX7_type 52 = .ok (.aload_n 0, 1) := by decide +kernel
theorem dX7_type_53 : decode cX7_type 53 = .ok (.getfield 7, 3) := by decide +kernel
theorem dX7_type_56 : decode cX7_type 56 = .ok (.iload_n 1, 1) := by decide +kernel
theorem dX7_type_57 : decode cX7_type 57 = .ok (.iaload, 1) := by decide +kernel
theorem dX7_type_58 : decode cX7_type 58 = .ok (.iadd, 1) := by decide +kernel
theorem dX7_type_59 : decode cX7_type 59 = .ok (.iload_n 2, 1) := by decide +kernel
theorem dX7_type_60 : decode cX7_type 60 = .ok (.iastore, 1) := by decide +kernel
theorem dX7_type_61 : decode cX7_type 61 = .ok (.aload_n 0, 1) := by decide +kernel
theorem dX7_type_62 : decode cX7_type 62 = .ok (.getfield 7, 3) := by decide +kernel
theorem dX7_type_65 : decode cX7_type 65 = .ok (.iload_n 1, 1) := by decide +kernel
theorem dX7_type_66 : decode cX7_type 66 = .ok (.dup2, 1) := by decide +kernel
theorem dX7_type_67 : decode cX7_type 67 = .ok (.iaload, 1) := by decide +kernel
theorem dX7_type_68 : decode cX7_type 68 = .ok (.iconst 1, 1) := by decide +kernel
theorem dX7_type_69 : decode cX7_type 69 = .ok (.iadd, 1) := by decide +kernel
theorem dX7_type_70 : decode cX7_type 70 = .ok (.iastore, 1) := by decide +kernel
theorem dX7_type_71 : decode cX7_type 71 = .ok (.aload_n 0, 1) := by decide +kernel
theorem dX7_type_72 : decode cX7_type 72 = .ok (.getfield 7, 3) := by decide +kernel
theorem dX7_type_75 : decode cX7_type 75 = .ok (.iload_n 1, 1) := by decide +kernel
theorem dX7_type_76 : decode cX7_type 76 = .ok (.iaload, 1) := by decide +kernel
theorem dX7_type_77 : decode cX7_type 77 = .ok (.ireturn, 1) := by decide +kernel
theorem dX7_wipe_0 : decode cX7_wipe 0 = .ok (.iload_n 1, 1) := by decide +kernel
theorem dX7_wipe_1 : decode cX7_wipe 1 = .ok (.invokestatic 104, 3) := by decide +kernel
theorem dX7_wipe_4 : decode cX7_wipe 4 = .ok (.ifCond .ne 6, 3) := by decide +kernel
theorem dX7_wipe_7 : decode cX7_wipe 7 = .ok (.bipush (-2), 2) := by decide +kernel
theorem dX7_wipe_9 : decode cX7_wipe 9 = .ok (.ireturn, 1) := by decide +kernel
theorem dX7_wipe_10 : decode cX7_wipe 10 = .ok (.aload_n 0, 1) := by decide +kernel
theorem dX7_wipe_11 : decode cX7_wipe 11 = .ok (.getfield 7, 3) := by decide +kernel
theorem dX7_wipe_14 : decode cX7_wipe 14 = .ok (.iload_n 1, 1) := by decide +kernel
theorem dX7_wipe_15 : decode cX7_wipe 15 = .ok (.iaload, 1) := by decide +kernel
theorem dX7_wipe_16 : decode cX7_wipe 16 = .ok (.istore_n 2, 1) := by decide +kernel
theorem dX7_wipe_17 : decode cX7_wipe 17 = .ok (.aload_n 0, 1) := by decide +kernel
theorem dX7_wipe_18 : decode cX7_wipe 18 = .ok (.getfield 7, 3) := by decide +kernel
theorem dX7_wipe_21 : decode cX7_wipe 21 = .ok (.iload_n 1, 1) := by decide +kernel
theorem dX7_wipe_22 : decode cX7_wipe 22 = .ok (.iconst 0, 1) := by decide +kernel
theorem dX7_wipe_23 : decode cX7_wipe 23 = .ok (.iastore, 1) := by decide +kernel
theorem dX7_wipe_24 : decode cX7_wipe 24 = .ok (.iload_n 2, 1) := by decide +kernel
theorem dX7_wipe_25 : decode cX7_wipe 25 = .ok (.ireturn, 1) := by decide +kernel
theorem dX7_undo_0 : decode cX7_undo 0 = .ok (.iload_n 1, 1) := by decide +kernel
theorem dX7_undo_1 : decode cX7_undo 1 = .ok (.invokestatic 104, 3) := by decide +kernel
theorem dX7_undo_4 : decode cX7_undo 4 = .ok (.ifCond .ne 6, 3) := by decide +kernel
theorem dX7_undo_7 : decode cX7_undo 7 = .ok (.bipush (-2), 2) := by decide +kernel
theorem dX7_undo_9 : decode cX7_undo 9 = .ok (.ireturn, 1) := by decide +kernel
theorem dX7_undo_10 : decode cX7_undo 10 = .ok (.aload_n 0, 1) := by decide +kernel
theorem dX7_undo_11 : decode cX7_undo 11 = .ok (.getfield 7, 3) := by decide +kernel
theorem dX7_undo_14 : decode cX7_undo 14 = .ok (.iload_n 1, 1) := by decide +kernel
theorem dX7_undo_15 : decode cX7_undo 15 = .ok (.iaload, 1) := by decide +kernel
theorem dX7_undo_16 : decode cX7_undo 16 = .ok (.ifCond .ne 6, 3) := by decide +kernel
theorem dX7_undo_19 : decode cX7_undo 19 = .ok (.bipush (-3), 2) := by decide +kernel
theorem dX7_undo_21 : decode cX7_undo 21 = .ok (.ireturn, 1) := by decide +kernel
theorem dX7_undo_22 : decode cX7_undo 22 = .ok (.aload_n 0, 1) := by decide +kernel
theorem dX7_undo_23 : decode cX7_undo 23 = .ok (.getfield 7, 3) := by decide +kernel
theorem dX7_undo_26 : decode cX7_undo 26 = .ok (.iload_n 1, 1) := by decide +kernel
theorem dX7_undo_27 : decode cX7_undo 27 = .ok (.dup2, 1) := by decide +kernel
theorem dX7_undo_28 : decode cX7_undo 28 = .ok (.iaload, 1) := by decide +kernel
theorem dX7_undo_29 : decode cX7_undo 29 = .ok (.iconst 1, 1) := by decide +kernel
theorem dX7_undo_30 : decode cX7_undo 30 = .ok (.isub, 1) := by decide +kernel
theorem dX7_undo_31 : decode cX7_undo 31 = .ok (.iastore, 1) := by decide +kernel
theorem dX7_undo_32 : decode cX7_undo 32 = .ok (.aload_n 0, 1) := by decide +kernel
theorem dX7_undo_33 : decode cX7_undo 33 = .ok (.getfield 7, 3) := by decide +kernel
theorem dX7_undo_36 : decode cX7_undo 36 = .ok (.iload_n 1, 1) := by decide +kernel
theorem dX7_undo_37 : decode cX7_undo 37 = .ok (.iaload, 1) := by decide +kernel
theorem dX7_undo_38 : decode cX7_undo 38 = .ok (.ireturn, 1) := by decide +kernel
theorem dX7_byteAt_0 : decode cX7_byteAt 0 = .ok (.iload_n 2, 1) := by decide +kernel
theorem dX7_byteAt_1 : decode cX7_byteAt 1 = .ok (.aload_n 0, 1) := by decide +kernel
theorem dX7_byteAt_2 : decode cX7_byteAt 2 = .ok (.getfield 7, 3) := by decide +kernel
theorem dX7_byteAt_5 : decode cX7_byteAt 5 = .ok (.iload_n 1, 1) := by decide +kernel
theorem dX7_byteAt_6 : decode cX7_byteAt 6 = .ok (.iaload, 1) := by decide +kernel
theorem dX7_byteAt_7 : decode cX7_byteAt 7 = .ok (.if_icmp .ge 17, 3) := by decide +kernel
theorem dX7_byteAt_10 : decode cX7_byteAt 10 = .ok (.aload_n 0, 1) := by decide +kernel
theorem dX7_byteAt_11 : decode cX7_byteAt 11 = .ok (.getfield 13, 3) := by decide +kernel
theorem dX7_byteAt_14 : decode cX7_byteAt 14 = .ok (.bipush 39, 2) := by decide +kernel
theorem dX7_byteAt_16 : decode cX7_byteAt 16 = .ok (.iload_n 1, 1) := by decide +kernel
theorem dX7_byteAt_17 : decode cX7_byteAt 17 = .ok (.imul, 1) := by decide +kernel
theorem dX7_byteAt_18 : decode cX7_byteAt 18 = .ok (.iload_n 2, 1) := by decide +kernel
theorem dX7_byteAt_19 : decode cX7_byteAt 19 = .ok (.iadd, 1) := by decide +kernel
theorem dX7_byteAt_20 : decode cX7_byteAt 20 = .ok (.iaload, 1) := by decide +kernel
theorem dX7_byteAt_21 : decode cX7_byteAt 21 = .ok (.goto 4, 3) := by decide +kernel
theorem dX7_byteAt_24 : decode cX7_byteAt 24 = .ok (.iconst (-1), 1) := by decide +kernel
theorem dX7_byteAt_25 : decode cX7_byteAt 25 = .ok (.ireturn, 1) := by decide +kernel
theorem dX7_sortOf_0 : decode cX7_sortOf 0 = .ok (.iload_n 0, 1) := by decide +kernel
theorem dX7_sortOf_1 : decode cX7_sortOf 1 = .ok (.bipush 114, 2) := by decide +kernel
theorem dX7_sortOf_3 : decode cX7_sortOf 3 = .ok (.if_icmp .ne 7, 3) := by decide +kernel
theorem dX7_sortOf_6 : decode cX7_sortOf 6 = .ok (.iconst 0, 1) := by decide +kernel
theorem dX7_sortOf_7 : decode cX7_sortOf 7 = .ok (.goto 34, 3) := by decide +kernel
theorem dX7_sortOf_10 : decode cX7_sortOf 10 = .ok (.iload_n 0, 1) := by decide +kernel
theorem dX7_sortOf_11 : decode cX7_sortOf 11 = .ok (.bipush 102, 2) := by decide +kernel
theorem dX7_sortOf_13 : decode cX7_sortOf 13 = .ok (.if_icmp .ne 7, 3) := by decide +kernel
theorem dX7_sortOf_16 : decode cX7_sortOf 16 = .ok (.iconst 1, 1) := by decide +kernel
theorem dX7_sortOf_17 : decode cX7_sortOf 17 = .ok (.goto 24, 3) := by decide +kernel
theorem dX7_sortOf_20 : decode cX7_sortOf 20 = .ok (.iload_n 0, 1) := by decide +kernel
theorem dX7_sortOf_21 : decode cX7_sortOf 21 = .ok (.bipush 103, 2) := by decide +kernel
theorem dX7_sortOf_23 : decode cX7_sortOf 23 = .ok (.if_icmp .ne 7, 3) := by decide +kernel
theorem dX7_sortOf_26 : decode cX7_sortOf 26 = .ok (.iconst 2, 1) := by decide +kernel
theorem dX7_sortOf_27 : decode cX7_sortOf 27 = .ok (.goto 14, 3) := by decide +kernel
theorem dX7_sortOf_30 : decode cX7_sortOf 30 = .ok (.iload_n 0, 1) := by decide +kernel
theorem dX7_sortOf_31 : decode cX7_sortOf 31 = .ok (.bipush 115, 2) := by decide +kernel
theorem dX7_sortOf_33 : decode cX7_sortOf 33 = .ok (.if_icmp .ne 7, 3) := by decide +kernel
theorem dX7_sortOf_36 : decode cX7_sortOf 36 = .ok (.iconst 3, 1) := by decide +kernel
theorem dX7_sortOf_37 : decode cX7_sortOf 37 = .ok (.goto 4, 3) := by decide +kernel
theorem dX7_sortOf_40 : decode cX7_sortOf 40 = .ok (.iconst (-1), 1) := by decide +kernel
theorem dX7_sortOf_41 : decode cX7_sortOf 41 = .ok (.ireturn, 1) := by decide +kernel
theorem dX7_readsCaller_0 : decode cX7_readsCaller 0 = .ok (.aload_n 0, 1) := by decide +kernel
theorem dX7_readsCaller_1 : decode cX7_readsCaller 1 = .ok (.iconst 0, 1) := by decide +kernel
theorem dX7_readsCaller_2 : decode cX7_readsCaller 2 = .ok (.iload_n 2, 1) := by decide +kernel
theorem dX7_readsCaller_3 : decode cX7_readsCaller 3 = .ok (.invokevirtual 108, 3) := by decide +kernel
theorem dX7_readsCaller_6 : decode cX7_readsCaller 6 = .ok (.istore_n 3, 1) := by decide +kernel
theorem dX7_readsCaller_7 : decode cX7_readsCaller 7 = .ok (.aload_n 0, 1) := by decide +kernel
theorem dX7_readsCaller_8 : decode cX7_readsCaller 8 = .ok (.iconst 0, 1) := by decide +kernel
theorem dX7_readsCaller_9 : decode cX7_readsCaller 9 = .ok (.iload_n 2, 1) := by decide +kernel
theorem dX7_readsCaller_10 : decode cX7_readsCaller 10 = .ok (.iconst 1, 1) := by decide +kernel
theorem dX7_readsCaller_11 : decode cX7_readsCaller 11 = .ok (.iadd, 1) := by decide +kernel
theorem dX7_readsCaller_12 : decode cX7_readsCaller 12 = .ok (.invokevirtual 108, 3) := by decide +kernel
theorem dX7_readsCaller_15 : decode cX7_readsCaller 15 = .ok (.istore 4, 2) := by decide +kernel
theorem dX7_readsCaller_17 : decode cX7_readsCaller 17 = .ok (.aload_n 0, 1) := by decide +kernel
theorem dX7_readsCaller_18 : decode cX7_readsCaller 18 = .ok (.iconst 0, 1) := by decide +kernel
theorem dX7_readsCaller_19 : decode cX7_readsCaller 19 = .ok (.iload_n 2, 1) := by decide +kernel
theorem dX7_readsCaller_20 : decode cX7_readsCaller 20 = .ok (.iconst 2, 1) := by decide +kernel
theorem dX7_readsCaller_21 : decode cX7_readsCaller 21 = .ok (.iadd, 1) := by decide +kernel
theorem dX7_readsCaller_22 : decode cX7_readsCaller 22 = .ok (.invokevirtual 108, 3) := by decide +kernel
theorem dX7_readsCaller_25 : decode cX7_readsCaller 25 = .ok (.istore 5, 2) := by decide +kernel
theorem dX7_readsCaller_27 : decode cX7_readsCaller 27 = .ok (.aload_n 0, 1) := by decide +kernel
theorem dX7_readsCaller_28 : decode cX7_readsCaller 28 = .ok (.iconst 0, 1) := by decide +kernel
theorem dX7_readsCaller_29 : decode cX7_readsCaller 29 = .ok (.iload_n 2, 1) := by decide +kernel
theorem dX7_readsCaller_30 : decode cX7_readsCaller 30 = .ok (.iconst 3, 1) := by decide +kernel
theorem dX7_readsCaller_31 : decode cX7_readsCaller 31 = .ok (.iadd, 1) := by decide +kernel
theorem dX7_readsCaller_32 : decode cX7_readsCaller 32 = .ok (.invokevirtual 108, 3) := by decide +kernel
theorem dX7_readsCaller_35 : decode cX7_readsCaller 35 = .ok (.istore 6, 2) := by decide +kernel
theorem dX7_readsCaller_37 : decode cX7_readsCaller 37 = .ok (.iload_n 1, 1) := by decide +kernel
theorem dX7_readsCaller_38 : decode cX7_readsCaller 38 = .ok (.bipush 8, 2) := by decide +kernel
theorem dX7_readsCaller_40 : decode cX7_readsCaller 40 = .ok (.if_icmp .eq 11, 3) := by decide +kernel
theorem dX7_readsCaller_43 : decode cX7_readsCaller 43 = .ok (.iload_n 3, 1) := by decide +kernel
theorem dX7_readsCaller_44 : decode cX7_readsCaller 44 = .ok (.invokestatic 112, 3) := by decide +kernel
theorem dX7_readsCaller_47 : decode cX7_readsCaller 47 = .ok (.iconst (-1), 1) := by decide +kernel
theorem dX7_readsCaller_48 : decode cX7_readsCaller 48 = .ok (.if_icmp .ne 5, 3) := by decide +kernel
theorem dX7_readsCaller_51 : decode cX7_readsCaller 51 = .ok (.iconst 0, 1) := by decide +kernel
theorem dX7_readsCaller_52 : decode cX7_readsCaller 52 = .ok (.ireturn, 1) := by decide +kernel
theorem dX7_readsCaller_53 : decode cX7_readsCaller 53 = .ok (.iload 4, 2) := by decide +kernel
theorem dX7_readsCaller_55 : decode cX7_readsCaller 55 = .ok (.bipush 49, 2) := by decide +kernel
theorem dX7_readsCaller_57 : decode cX7_readsCaller 57 = .ok (.bipush 57, 2) := by decide +kernel
theorem dX7_readsCaller_59 : decode cX7_readsCaller 59 = .ok (.invokestatic 100, 3) := by decide +kernel
theorem dX7_readsCaller_62 : decode cX7_readsCaller 62 = .ok (.ifCond .ne 5, 3) := by decide +kernel
theorem dX7_readsCaller_65 : decode cX7_readsCaller 65 = .ok (.iconst 1, 1) := by decide +kernel
theorem dX7_readsCaller_66 : decode cX7_readsCaller 66 = .ok (.ireturn, 1) := by decide +kernel
theorem dX7_readsCaller_67 : decode cX7_readsCaller 67 = .ok (.iload 5, 2) := by decide +kernel
theorem dX7_readsCaller_69 : decode cX7_readsCaller 69 = .ok (.bipush 97, 2) := by decide +kernel
theorem dX7_readsCaller_71 : decode cX7_readsCaller 71 = .ok (.bipush 120, 2) := by decide +kernel
theorem dX7_readsCaller_73 : decode cX7_readsCaller 73 = .ok (.invokestatic 100, 3) := by decide +kernel
theorem dX7_readsCaller_76 : decode cX7_readsCaller 76 = .ok (.ifCond .ne 5, 3) := by decide +kernel
theorem dX7_readsCaller_79 : decode cX7_readsCaller 79 = .ok (.iconst 2, 1) := by decide +kernel
theorem dX7_readsCaller_80 : decode cX7_readsCaller 80 = .ok (.ireturn, 1) := by decide +kernel
theorem dX7_readsCaller_81 : decode cX7_readsCaller 81 = .ok (.iload 6, 2) := by decide +kernel
theorem dX7_readsCaller_83 : decode cX7_readsCaller 83 = .ok (.bipush 49, 2) := by decide +kernel
theorem dX7_readsCaller_85 : decode cX7_readsCaller 85 = .ok (.bipush 57, 2) := by decide +kernel
theorem dX7_readsCaller_87 : decode cX7_readsCaller 87 = .ok (.invokestatic 100, 3) := by decide +kernel
theorem dX7_readsCaller_90 : decode cX7_readsCaller 90 = .ok (.ifCond .ne 5, 3) := by decide +kernel
theorem dX7_readsCaller_93 : decode cX7_readsCaller 93 = .ok (.iconst 3, 1) := by decide +kernel
theorem dX7_readsCaller_94 : decode cX7_readsCaller 94 = .ok (.ireturn, 1) := by decide +kernel
theorem dX7_readsCaller_95 : decode cX7_readsCaller 95 = .ok (.aload_n 0, 1) := by decide +kernel
theorem dX7_readsCaller_96 : decode cX7_readsCaller 96 = .ok (.getfield 16, 3) := by decide +kernel
theorem dX7_readsCaller_99 : decode cX7_readsCaller 99 = .ok (.iload_n 1, 1) := by decide +kernel
theorem dX7_readsCaller_100 : decode cX7_readsCaller 100 = .ok (.iload_n 3, 1) := by decide +kernel
theorem dX7_readsCaller_101 : decode cX7_readsCaller 101 = .ok (.invokestatic 112, 3) := by decide +kernel
theorem dX7_readsCaller_104 : decode cX7_readsCaller 104 = .ok (.iastore, 1) := by decide +kernel
theorem dX7_readsCaller_105 : decode cX7_readsCaller 105 = .ok (.aload_n 0, 1) := by decide +kernel
theorem dX7_readsCaller_106 : decode cX7_readsCaller 106 = .ok (.getfield 19, 3) := by decide +kernel
theorem dX7_readsCaller_109 : decode cX7_readsCaller 109 = .ok (.iload_n 1, 1) := by decide +kernel
theorem dX7_readsCaller_110 : decode cX7_readsCaller 110 = .ok (.iload 4, 2) := by decide +kernel
theorem dX7_readsCaller_112 : decode cX7_readsCaller 112 = .ok (.bipush 48, 2) := by decide +kernel
theorem dX7_readsCaller_114 : decode cX7_readsCaller 114 = .ok (.isub, 1) := by decide +kernel
theorem dX7_readsCaller_115 : decode cX7_readsCaller 115 = .ok (.iastore, 1) := by decide +kernel
theorem dX7_readsCaller_116 : decode cX7_readsCaller 116 = .ok (.aload_n 0, 1) := by decide +kernel
theorem dX7_readsCaller_117 : decode cX7_readsCaller 117 = .ok (.getfield 22, 3) := by decide +kernel
theorem dX7_readsCaller_120 : decode cX7_readsCaller 120 = .ok (.iload_n 1, 1) := by decide +kernel
theorem dX7_readsCaller_121 : decode cX7_readsCaller 121 = .ok (.iload 5, 2) := by decide +kernel
theorem dX7_readsCaller_123 : decode cX7_readsCaller 123 = .ok (.bipush 97, 2) := by decide +kernel
theorem dX7_readsCaller_125 : decode cX7_readsCaller 125 = .ok (.isub, 1) := by decide +kernel
theorem dX7_readsCaller_126 : decode cX7_readsCaller 126 = .ok (.iastore, 1) := by decide +kernel
theorem dX7_readsCaller_127 : decode cX7_readsCaller 127 = .ok (.aload_n 0, 1) := by decide +kernel
theorem dX7_readsCaller_128 : decode cX7_readsCaller 128 = .ok (.getfield 25, 3) := by decide +kernel
theorem dX7_readsCaller_131 : decode cX7_readsCaller 131 = .ok (.iload_n 1, 1) := by decide +kernel
theorem dX7_readsCaller_132 : decode cX7_readsCaller 132 = .ok (.iload 6, 2) := by decide +kernel
theorem dX7_readsCaller_134 : decode cX7_readsCaller 134 = .ok (.bipush 48, 2) := by decide +kernel
theorem dX7_readsCaller_136 : decode cX7_readsCaller 136 = .ok (.isub, 1) := by decide +kernel
theorem dX7_readsCaller_137 : decode cX7_readsCaller 137 = .ok (.iastore, 1) := by decide +kernel
theorem dX7_readsCaller_138 : decode cX7_readsCaller 138 = .ok (.iconst 4, 1) := by decide +kernel
theorem dX7_readsCaller_139 : decode cX7_readsCaller 139 = .ok (.ireturn, 1) := by decide +kernel
theorem dX7_readsMan_0 : decode cX7_readsMan 0 = .ok (.aload_n 0, 1) := by decide +kernel
theorem dX7_readsMan_1 : decode cX7_readsMan 1 = .ok (.iconst 1, 1) := by decide +kernel
theorem dX7_readsMan_2 : decode cX7_readsMan 2 = .ok (.iload_n 2, 1) := by decide +kernel
theorem dX7_readsMan_3 : decode cX7_readsMan 3 = .ok (.invokevirtual 108, 3) := by decide +kernel
theorem dX7_readsMan_6 : decode cX7_readsMan 6 = .ok (.istore_n 3, 1) := by decide +kernel
theorem dX7_readsMan_7 : decode cX7_readsMan 7 = .ok (.aload_n 0, 1) := by decide +kernel
theorem dX7_readsMan_8 : decode cX7_readsMan 8 = .ok (.iconst 1, 1) := by decide +kernel
theorem dX7_readsMan_9 : decode cX7_readsMan 9 = .ok (.iload_n 2, 1) := by decide +kernel
theorem dX7_readsMan_10 : decode cX7_readsMan 10 = .ok (.iconst 1, 1) := by decide +kernel
theorem dX7_readsMan_11 : decode cX7_readsMan 11 = .ok (.iadd, 1) := by decide +kernel
theorem dX7_readsMan_12 : decode cX7_readsMan 12 = .ok (.invokevirtual 108, 3) := by decide +kernel
theorem dX7_readsMan_15 : decode cX7_readsMan 15 = .ok (.istore 4, 2) := by decide +kernel
theorem dX7_readsMan_17 : decode cX7_readsMan 17 = .ok (.aload_n 0, 1) := by decide +kernel
theorem dX7_readsMan_18 : decode cX7_readsMan 18 = .ok (.iconst 1, 1) := by decide +kernel
theorem dX7_readsMan_19 : decode cX7_readsMan 19 = .ok (.iload_n 2, 1) := by decide +kernel
theorem dX7_readsMan_20 : decode cX7_readsMan 20 = .ok (.iconst 2, 1) := by decide +kernel
theorem dX7_readsMan_21 : decode cX7_readsMan 21 = .ok (.iadd, 1) := by decide +kernel
theorem dX7_readsMan_22 : decode cX7_readsMan 22 = .ok (.invokevirtual 108, 3) := by decide +kernel
theorem dX7_readsMan_25 : decode cX7_readsMan 25 = .ok (.istore 5, 2) := by decide +kernel
theorem dX7_readsMan_27 : decode cX7_readsMan 27 = .ok (.iload_n 1, 1) := by decide +kernel
theorem dX7_readsMan_28 : decode cX7_readsMan 28 = .ok (.iconst 4, 1) := by decide +kernel
theorem dX7_readsMan_29 : decode cX7_readsMan 29 = .ok (.if_icmp .eq 15, 3) := by decide +kernel
theorem dX7_readsMan_32 : decode cX7_readsMan 32 = .ok (.iload_n 3, 1) := by decide +kernel
theorem dX7_readsMan_33 : decode cX7_readsMan 33 = .ok (.bipush 98, 2) := by decide +kernel
theorem dX7_readsMan_35 : decode cX7_readsMan 35 = .ok (.if_icmp .eq 11, 3) := by decide +kernel
theorem dX7_readsMan_38 : decode cX7_readsMan 38 = .ok (.iload_n 3, 1) := by decide +kernel
theorem dX7_readsMan_39 : decode cX7_readsMan 39 = .ok (.bipush 106, 2) := by decide +kernel
theorem dX7_readsMan_41 : decode cX7_readsMan 41 = .ok (.if_icmp .eq 5, 3) := by decide +kernel
theorem dX7_readsMan_44 : decode cX7_readsMan 44 = .ok (.iconst 0, 1) := by decide +kernel
theorem dX7_readsMan_45 : decode cX7_readsMan 45 = .ok (.ireturn, 1) := by decide +kernel
theorem dX7_readsMan_46 : decode cX7_readsMan 46 = .ok (.iload 4, 2) := by decide +kernel
theorem dX7_readsMan_48 : decode cX7_readsMan 48 = .ok (.bipush 97, 2) := by decide +kernel
theorem dX7_readsMan_50 : decode cX7_readsMan 50 = .ok (.bipush 120, 2) := by decide +kernel
theorem dX7_readsMan_52 : decode cX7_readsMan 52 = .ok (.invokestatic 100, 3) := by decide +kernel
theorem dX7_readsMan_55 : decode cX7_readsMan 55 = .ok (.ifCond .ne 5, 3) := by decide +kernel
theorem dX7_readsMan_58 : decode cX7_readsMan 58 = .ok (.iconst 1, 1) := by decide +kernel
theorem dX7_readsMan_59 : decode cX7_readsMan 59 = .ok (.ireturn, 1) := by decide +kernel
theorem dX7_readsMan_60 : decode cX7_readsMan 60 = .ok (.iload 5, 2) := by decide +kernel
theorem dX7_readsMan_62 : decode cX7_readsMan 62 = .ok (.bipush 97, 2) := by decide +kernel
theorem dX7_readsMan_64 : decode cX7_readsMan 64 = .ok (.bipush 120, 2) := by decide +kernel
theorem dX7_readsMan_66 : decode cX7_readsMan 66 = .ok (.invokestatic 100, 3) := by decide +kernel
theorem dX7_readsMan_69 : decode cX7_readsMan 69 = .ok (.ifCond .ne 5, 3) := by decide +kernel
theorem dX7_readsMan_72 : decode cX7_readsMan 72 = .ok (.iconst 2, 1) := by decide +kernel
theorem dX7_readsMan_73 : decode cX7_readsMan 73 = .ok (.ireturn, 1) := by decide +kernel
theorem dX7_readsMan_74 : decode cX7_readsMan 74 = .ok (.aload_n 0, 1) := by decide +kernel
theorem dX7_readsMan_75 : decode cX7_readsMan 75 = .ok (.getfield 28, 3) := by decide +kernel
theorem dX7_readsMan_78 : decode cX7_readsMan 78 = .ok (.iload_n 1, 1) := by decide +kernel
theorem dX7_readsMan_79 : decode cX7_readsMan 79 = .ok (.iload_n 3, 1) := by decide +kernel
theorem dX7_readsMan_80 : decode cX7_readsMan 80 = .ok (.bipush 106, 2) := by decide +kernel
theorem dX7_readsMan_82 : decode cX7_readsMan 82 = .ok (.if_icmp .ne 7, 3) := by decide +kernel
theorem dX7_readsMan_85 : decode cX7_readsMan 85 = .ok (.iconst 1, 1) := by decide +kernel
theorem dX7_readsMan_86 : decode cX7_readsMan 86 = .ok (.goto 4, 3) := by decide +kernel
theorem dX7_readsMan_89 : decode cX7_readsMan 89 = .ok (.iconst 0, 1) := by decide +kernel
theorem dX7_readsMan_90 : decode cX7_readsMan 90 = .ok (.iastore, 1) := by decide +kernel
theorem dX7_readsMan_91 : decode cX7_readsMan 91 = .ok (.aload_n 0, 1) := by decide +kernel
theorem dX7_readsMan_92 : decode cX7_readsMan 92 = .ok (.getfield 31, 3) := by decide +kernel
theorem dX7_readsMan_95 : decode cX7_readsMan 95 = .ok (.iload_n 1, 1) := by decide +kernel
theorem dX7_readsMan_96 : decode cX7_readsMan 96 = .ok (.iload 4, 2) := by decide +kernel
theorem dX7_readsMan_98 : decode cX7_readsMan 98 = .ok (.bipush 97, 2) := by decide +kernel
theorem dX7_readsMan_100 : decode cX7_readsMan 100 = .ok (.isub, 1) := by decide +kernel
theorem dX7_readsMan_101 : decode cX7_readsMan 101 = .ok (.iastore, 1) := by decide +kernel
theorem dX7_readsMan_102 : decode cX7_readsMan 102 = .ok (.aload_n 0, 1) := by decide +kernel
theorem dX7_readsMan_103 : decode cX7_readsMan 103 = .ok (.getfield 34, 3) := by decide +kernel
theorem dX7_readsMan_106 : decode cX7_readsMan 106 = .ok (.iload_n 1, 1) := by decide +kernel
theorem dX7_readsMan_107 : decode cX7_readsMan 107 = .ok (.iload 5, 2) := by decide +kernel
theorem dX7_readsMan_109 : decode cX7_readsMan 109 = .ok (.bipush 97, 2) := by decide +kernel
theorem dX7_readsMan_111 : decode cX7_readsMan 111 = .ok (.isub, 1) := by decide +kernel
theorem dX7_readsMan_112 : decode cX7_readsMan 112 = .ok (.iastore, 1) := by decide +kernel
theorem dX7_readsMan_113 : decode cX7_readsMan 113 = .ok (.iconst 3, 1) := by decide +kernel
theorem dX7_readsMan_114 : decode cX7_readsMan 114 = .ok (.ireturn, 1) := by decide +kernel
theorem dX7_readsParts_0 : decode cX7_readsParts 0 = .ok (.iload_n 1, 1) := by decide +kernel
theorem dX7_readsParts_1 : decode cX7_readsParts 1 = .ok (.ifCond .ne 7, 3) := by decide +kernel
theorem dX7_readsParts_4 : decode cX7_readsParts 4 = .ok (.iconst 4, 1) := by decide +kernel
theorem dX7_readsParts_5 : decode cX7_readsParts 5 = .ok (.goto 4, 3) := by decide +kernel
theorem dX7_readsParts_8 : decode cX7_readsParts 8 = .ok (.iconst 3, 1) := by decide +kernel
theorem dX7_readsParts_9 : decode cX7_readsParts 9 = .ok (.istore_n 2, 1) := by decide +kernel
theorem dX7_readsParts_10 : decode cX7_readsParts 10 = .ok (.iconst 0, 1) := by decide +kernel
theorem dX7_readsParts_11 : decode cX7_readsParts 11 = .ok (.istore_n 3, 1) := by decide +kernel
theorem dX7_readsParts_12 : decode cX7_readsParts 12 = .ok (.iconst 0, 1) := by decide +kernel
theorem dX7_readsParts_13 : decode cX7_readsParts 13 = .ok (.istore 4, 2) := by decide +kernel
theorem dX7_readsParts_15 : decode cX7_readsParts 15 = .ok (.aload_n 0, 1) := by decide +kernel
theorem dX7_readsParts_16 : decode cX7_readsParts 16 = .ok (.iload_n 1, 1) := by decide +kernel
theorem dX7_readsParts_17 : decode cX7_readsParts 17 = .ok (.ifCond .ne 7, 3) := by decide +kernel
theorem dX7_readsParts_20 : decode cX7_readsParts 20 = .ok (.iconst 0, 1) := by decide +kernel
theorem dX7_readsParts_21 : decode cX7_readsParts 21 = .ok (.goto 7, 3) := by decide +kernel
theorem dX7_readsParts_24 : decode cX7_readsParts 24 = .ok (.aload_n 0, 1) := by decide +kernel
theorem dX7_readsParts_25 : decode cX7_readsParts 25 = .ok (.getfield 116, 3) := by decide +kernel
theorem dX7_readsParts_28 : decode cX7_readsParts 28 = .ok (.putfield 116, 3) := by decide +kernel
theorem dX7_readsParts_31 : decode cX7_readsParts 31 = .ok (.aload_n 0, 1) := by decide +kernel
theorem dX7_readsParts_32 : decode cX7_readsParts 32 = .ok (.iload_n 1, 1) := by decide +kernel
theorem dX7_readsParts_33 : decode cX7_readsParts 33 = .ok (.iconst 1, 1) := by decide +kernel
theorem dX7_readsParts_34 : decode cX7_readsParts 34 = .ok (.if_icmp .ne 7, 3) := by decide +kernel
theorem dX7_readsParts_37 : decode cX7_readsParts 37 = .ok (.iconst 0, 1) := by decide +kernel
theorem dX7_readsParts_38 : decode cX7_readsParts 38 = .ok (.goto 7, 3) := by decide +kernel
theorem dX7_readsParts_41 : decode cX7_readsParts 41 = .ok (.aload_n 0, 1) := by decide +kernel
theorem dX7_readsParts_42 : decode cX7_readsParts 42 = .ok (.getfield 120, 3) := by decide +kernel
theorem dX7_readsParts_45 : decode cX7_readsParts 45 = .ok (.putfield 120, 3) := by decide +kernel
theorem dX7_readsParts_48 : decode cX7_readsParts 48 = .ok (.iload 4, 2) := by decide +kernel
theorem dX7_readsParts_50 : decode cX7_readsParts 50 = .ok (.aload_n 0, 1) := by decide +kernel
theorem dX7_readsParts_51 : decode cX7_readsParts 51 = .ok (.getfield 7, 3) := by decide +kernel
theorem dX7_readsParts_54 : decode cX7_readsParts 54 = .ok (.iload_n 1, 1) := by decide +kernel
theorem dX7_readsParts_55 : decode cX7_readsParts 55 = .ok (.iaload, 1) := by decide +kernel
theorem dX7_readsParts_56 : decode cX7_readsParts 56 = .ok (.if_icmp .lt 8, 3) := by decide +kernel
theorem dX7_readsParts_59 : decode cX7_readsParts 59 = .ok (.iload 4, 2) := by decide +kernel
theorem dX7_readsParts_61 : decode cX7_readsParts 61 = .ok (.ifCond .le 114, 3) := by decide +kernel
theorem dX7_readsParts_64 : decode cX7_readsParts 64 = .ok (.iload_n 1, 1) := by decide +kernel
theorem dX7_readsParts_65 : decode cX7_readsParts 65 = .ok (.ifCond .ne 13, 3) := by decide +kernel
theorem dX7_readsParts_68 : decode cX7_readsParts 68 = .ok (.aload_n 0, 1) := by decide +kernel
theorem dX7_readsParts_69 : decode cX7_readsParts 69 = .ok (.iload_n 3, 1) := by decide +kernel
theorem dX7_readsParts_70 : decode cX7_readsParts 70 = .ok (.iload 4, 2) := by decide +kernel
theorem dX7_readsParts_72 : decode cX7_readsParts 72 = .ok (.invokevirtual 123, 3) := by decide +kernel
theorem dX7_readsParts_75 : decode cX7_readsParts 75 = .ok (.goto 10, 3) := by decide +kernel
theorem dX7_readsParts_78 : decode cX7_readsParts 78 = .ok (.aload_n 0, 1) := by decide +kernel
theorem dX7_readsParts_79 : decode cX7_readsParts 79 = .ok (.iload_n 3, 1) := by decide +kernel
theorem dX7_readsParts_80 : decode cX7_readsParts 80 = .ok (.iload 4, 2) := by decide +kernel
theorem dX7_readsParts_82 : decode cX7_readsParts 82 = .ok (.invokevirtual 126, 3) := by decide +kernel
theorem dX7_readsParts_85 : decode cX7_readsParts 85 = .ok (.istore 5, 2) := by decide +kernel
theorem dX7_readsParts_87 : decode cX7_readsParts 87 = .ok (.iload 5, 2) := by decide +kernel
theorem dX7_readsParts_89 : decode cX7_readsParts 89 = .ok (.iload_n 2, 1) := by decide +kernel
theorem dX7_readsParts_90 : decode cX7_readsParts 90 = .ok (.if_icmp .ge 9, 3) := by decide +kernel
theorem dX7_readsParts_93 : decode cX7_readsParts 93 = .ok (.iload 4, 2) := by decide +kernel
theorem dX7_readsParts_95 : decode cX7_readsParts 95 = .ok (.iload 5, 2) := by decide +kernel
theorem dX7_readsParts_97 : decode cX7_readsParts 97 = .ok (.iadd, 1) := by decide +kernel
theorem dX7_readsParts_98 : decode cX7_readsParts 98 = .ok (.ireturn, 1) := by decide +kernel
theorem dX7_readsParts_99 : decode cX7_readsParts 99 = .ok (.iinc 3 1, 3) := by decide +kernel
theorem dX7_readsParts_102 : decode cX7_readsParts 102 = .ok (.iload 4, 2) := by decide +kernel
theorem dX7_readsParts_104 : decode cX7_readsParts 104 = .ok (.iload_n 2, 1) := by decide +kernel
theorem dX7_readsParts_105 : decode cX7_readsParts 105 = .ok (.iadd, 1) := by decide +kernel
theorem dX7_readsParts_106 : decode cX7_readsParts 106 = .ok (.istore 4, 2) := by decide +kernel
theorem dX7_readsParts_108 : decode cX7_readsParts 108 = .ok (.iload 4, 2) := by decide +kernel
theorem dX7_readsParts_110 : decode cX7_readsParts 110 = .ok (.aload_n 0, 1) := by decide +kernel
theorem dX7_readsParts_111 : decode cX7_readsParts 111 = .ok (.getfield 7, 3) := by decide +kernel
theorem dX7_readsParts_114 : decode cX7_readsParts 114 = .ok (.iload_n 1, 1) := by decide +kernel
theorem dX7_readsParts_115 : decode cX7_readsParts 115 = .ok (.iaload, 1) := by decide +kernel
theorem dX7_readsParts_116 : decode cX7_readsParts 116 = .ok (.if_icmp .ne 38, 3) := by decide +kernel
theorem dX7_readsParts_119 : decode cX7_readsParts 119 = .ok (.aload_n 0, 1) := by decide +kernel
theorem dX7_readsParts_120 : decode cX7_readsParts 120 = .ok (.iload_n 1, 1) := by decide +kernel
theorem dX7_readsParts_121 : decode cX7_readsParts 121 = .ok (.ifCond .ne 7, 3) := by decide +kernel
theorem dX7_readsParts_124 : decode cX7_readsParts 124 = .ok (.iload_n 3, 1) := by decide +kernel
theorem dX7_readsParts_125 : decode cX7_readsParts 125 = .ok (.goto 7, 3) := by decide +kernel
theorem dX7_readsParts_128 : decode cX7_readsParts 128 = .ok (.aload_n 0, 1) := by decide +kernel
theorem dX7_readsParts_129 : decode cX7_readsParts 129 = .ok (.getfield 116, 3) := by decide +kernel
theorem dX7_readsParts_132 : decode cX7_readsParts 132 = .ok (.putfield 116, 3) := by decide +kernel
theorem dX7_readsParts_135 : decode cX7_readsParts 135 = .ok (.aload_n 0, 1) := by decide +kernel
theorem dX7_readsParts_136 : decode cX7_readsParts 136 = .ok (.iload_n 1, 1) := by decide +kernel
theorem dX7_readsParts_137 : decode cX7_readsParts 137 = .ok (.iconst 1, 1) := by decide +kernel
theorem dX7_readsParts_138 : decode cX7_readsParts 138 = .ok (.if_icmp .ne 7, 3) := by decide +kernel
theorem dX7_readsParts_141 : decode cX7_readsParts 141 = .ok (.iload_n 3, 1) := by decide +kernel
theorem dX7_readsParts_142 : decode cX7_readsParts 142 = .ok (.goto 7, 3) := by decide +kernel
theorem dX7_readsParts_145 : decode cX7_readsParts 145 = .ok (.aload_n 0, 1) := by decide +kernel
theorem dX7_readsParts_146 : decode cX7_readsParts 146 = .ok (.getfield 120, 3) := by decide +kernel
theorem dX7_readsParts_149 : decode cX7_readsParts 149 = .ok (.putfield 120, 3) := by decide +kernel
theorem dX7_readsParts_152 : decode cX7_readsParts 152 = .ok (.iconst (-1), 1) := by decide +kernel
theorem dX7_readsParts_153 : decode cX7_readsParts 153 = .ok (.ireturn, 1) := by decide +kernel
theorem dX7_readsParts_154 : decode cX7_readsParts 154 = .ok (.aload_n 0, 1) := by decide +kernel
theorem dX7_readsParts_155 : decode cX7_readsParts 155 = .ok (.iload_n 1, 1) := by decide +kernel
theorem dX7_readsParts_156 : decode cX7_readsParts 156 = .ok (.iload 4, 2) := by decide +kernel
theorem dX7_readsParts_158 : decode cX7_readsParts 158 = .ok (.invokevirtual 108, 3) := by decide +kernel
theorem dX7_readsParts_161 : decode cX7_readsParts 161 = .ok (.bipush 59, 2) := by decide +kernel
theorem dX7_readsParts_163 : decode cX7_readsParts 163 = .ok (.if_icmp .eq 6, 3) := by decide +kernel
theorem dX7_readsParts_166 : decode cX7_readsParts 166 = .ok (.iload 4, 2) := by decide +kernel
theorem dX7_readsParts_168 : decode cX7_readsParts 168 = .ok (.ireturn, 1) := by decide +kernel
theorem dX7_readsParts_169 : decode cX7_readsParts 169 = .ok (.iinc 4 1, 3) := by decide +kernel
theorem dX7_readsParts_172 : decode cX7_readsParts 172 = .ok (.goto (-124), 3) := by decide +kernel
theorem dX7_readsParts_175 : decode cX7_readsParts 175 = .ok (.iconst (-1), 1) := by decide +kernel
theorem dX7_readsParts_176 : decode cX7_readsParts 176 = .ok (.ireturn, 1) := by decide +kernel
theorem dX7_faultOf_0 : decode cX7_faultOf 0 = .ok (.aload_n 0, 1) := by decide +kernel
theorem dX7_faultOf_1 : decode cX7_faultOf 1 = .ok (.iconst 0, 1) := by decide +kernel
theorem dX7_faultOf_2 : decode cX7_faultOf 2 = .ok (.invokevirtual 129, 3) := by decide +kernel
theorem dX7_faultOf_5 : decode cX7_faultOf 5 = .ok (.istore_n 2, 1) := by decide +kernel
theorem dX7_faultOf_6 : decode cX7_faultOf 6 = .ok (.aload_n 0, 1) := by decide +kernel
theorem dX7_faultOf_7 : decode cX7_faultOf 7 = .ok (.iconst 1, 1) := by decide +kernel
theorem dX7_faultOf_8 : decode cX7_faultOf 8 = .ok (.invokevirtual 129, 3) := by decide +kernel
theorem dX7_faultOf_11 : decode cX7_faultOf 11 = .ok (.istore_n 3, 1) := by decide +kernel
theorem dX7_faultOf_12 : decode cX7_faultOf 12 = .ok (.iload_n 1, 1) := by decide +kernel
theorem dX7_faultOf_13 : decode cX7_faultOf 13 = .ok (.ifCond .ne 7, 3) := by decide +kernel
theorem dX7_faultOf_16 : decode cX7_faultOf 16 = .ok (.iload_n 2, 1) := by decide +kernel
theorem dX7_faultOf_17 : decode cX7_faultOf 17 = .ok (.goto 4, 3) := by decide +kernel
theorem dX7_faultOf_20 : decode cX7_faultOf 20 = .ok (.iload_n 3, 1) := by decide +kernel
theorem dX7_faultOf_21 : decode cX7_faultOf 21 = .ok (.ireturn, 1) := by decide +kernel
theorem dX7_reads_0 : decode cX7_reads 0 = .ok (.aload_n 0, 1) := by decide +kernel
theorem dX7_reads_1 : decode cX7_reads 1 = .ok (.iconst 0, 1) := by decide +kernel
theorem dX7_reads_2 : decode cX7_reads 2 = .ok (.invokevirtual 132, 3) := by decide +kernel
theorem dX7_reads_5 : decode cX7_reads 5 = .ok (.istore_n 1, 1) := by decide +kernel
theorem dX7_reads_6 : decode cX7_reads 6 = .ok (.return_, 1) := by decide +kernel
theorem dX7_fault_0 : decode cX7_fault 0 = .ok (.iload_n 1, 1) := by decide +kernel
theorem dX7_fault_1 : decode cX7_fault 1 = .ok (.invokestatic 104, 3) := by decide +kernel
theorem dX7_fault_4 : decode cX7_fault 4 = .ok (.ifCond .eq 11, 3) := by decide +kernel
theorem dX7_fault_7 : decode cX7_fault 7 = .ok (.aload_n 0, 1) := by decide +kernel
theorem dX7_fault_8 : decode cX7_fault 8 = .ok (.iload_n 1, 1) := by decide +kernel
theorem dX7_fault_9 : decode cX7_fault 9 = .ok (.invokevirtual 132, 3) := by decide +kernel
theorem dX7_fault_12 : decode cX7_fault 12 = .ok (.goto 5, 3) := by decide +kernel
theorem dX7_fault_15 : decode cX7_fault 15 = .ok (.bipush (-2), 2) := by decide +kernel
theorem dX7_fault_17 : decode cX7_fault 17 = .ok (.ireturn, 1) := by decide +kernel
theorem dX7_isCaller_0 : decode cX7_isCaller 0 = .ok (.aload_n 0, 1) := by decide +kernel
theorem dX7_isCaller_1 : decode cX7_isCaller 1 = .ok (.invokevirtual 135, 3) := by decide +kernel
theorem dX7_isCaller_4 : decode cX7_isCaller 4 = .ok (.iload_n 1, 1) := by decide +kernel
theorem dX7_isCaller_5 : decode cX7_isCaller 5 = .ok (.iconst 0, 1) := by decide +kernel
theorem dX7_isCaller_6 : decode cX7_isCaller 6 = .ok (.aload_n 0, 1) := by decide +kernel
theorem dX7_isCaller_7 : decode cX7_isCaller 7 = .ok (.getfield 116, 3) := by decide +kernel
theorem dX7_isCaller_10 : decode cX7_isCaller 10 = .ok (.iconst 1, 1) := by decide +kernel
theorem dX7_isCaller_11 : decode cX7_isCaller 11 = .ok (.isub, 1) := by decide +kernel
theorem dX7_isCaller_12 : decode cX7_isCaller 12 = .ok (.invokestatic 100, 3) := by decide +kernel
theorem dX7_isCaller_15 : decode cX7_isCaller 15 = .ok (.ireturn, 1) := by decide +kernel
theorem dX7_isMan_0 : decode cX7_isMan 0 = .ok (.aload_n 0, 1) := by decide +kernel
theorem dX7_isMan_1 : decode cX7_isMan 1 = .ok (.invokevirtual 135, 3) := by decide +kernel
theorem dX7_isMan_4 : decode cX7_isMan 4 = .ok (.iload_n 1, 1) := by decide +kernel
theorem dX7_isMan_5 : decode cX7_isMan 5 = .ok (.iconst 0, 1) := by decide +kernel
theorem dX7_isMan_6 : decode cX7_isMan 6 = .ok (.aload_n 0, 1) := by decide +kernel
theorem dX7_isMan_7 : decode cX7_isMan 7 = .ok (.getfield 120, 3) := by decide +kernel
theorem dX7_isMan_10 : decode cX7_isMan 10 = .ok (.iconst 1, 1) := by decide +kernel
theorem dX7_isMan_11 : decode cX7_isMan 11 = .ok (.isub, 1) := by decide +kernel
theorem dX7_isMan_12 : decode cX7_isMan 12 = .ok (.invokestatic 100, 3) := by decide +kernel
theorem dX7_isMan_15 : decode cX7_isMan 15 = .ok (.ireturn, 1) := by decide +kernel
theorem dX7_callerOf_0 : decode cX7_callerOf 0 = .ok (.iload_n 2, 1) := by decide +kernel
theorem dX7_callerOf_1 : decode cX7_callerOf 1 = .ok (.ifCond .ne 12, 3) := by decide +kernel
theorem dX7_callerOf_4 : decode cX7_callerOf 4 = .ok (.aload_n 0, 1) := by decide +kernel
theorem dX7_callerOf_5 : decode cX7_callerOf 5 = .ok (.getfield 16, 3) := by decide +kernel
theorem dX7_callerOf_8 : decode cX7_callerOf 8 = .ok (.iload_n 1, 1) := by decide +kernel
theorem dX7_callerOf_9 : decode cX7_callerOf 9 = .ok (.iaload, 1) := by decide +kernel
theorem dX7_callerOf_10 : decode cX7_callerOf 10 = .ok (.goto 37, 3) := by decide +kernel
theorem dX7_callerOf_13 : decode cX7_callerOf 13 = .ok (.iload_n 2, 1) := by decide +kernel
theorem dX7_callerOf_14 : decode cX7_callerOf 14 = .ok (.iconst 1, 1) := by decide +kernel
theorem dX7_callerOf_15 : decode cX7_callerOf 15 = .ok (.if_icmp .ne 12, 3) := by decide +kernel
theorem dX7_callerOf_18 : decode cX7_callerOf 18 = .ok (.aload_n 0, 1) := by decide +kernel
theorem dX7_callerOf_19 : decode cX7_callerOf 19 = .ok (.getfield 19, 3) := by decide +kernel
theorem dX7_callerOf_22 : decode cX7_callerOf 22 = .ok (.iload_n 1, 1) := by decide +kernel
theorem dX7_callerOf_23 : decode cX7_callerOf 23 = .ok (.iaload, 1) := by decide +kernel
theorem dX7_callerOf_24 : decode cX7_callerOf 24 = .ok (.goto 23, 3) := by decide +kernel
theorem dX7_callerOf_27 : decode cX7_callerOf 27 = .ok (.iload_n 2, 1) := by decide +kernel
theorem dX7_callerOf_28 : decode cX7_callerOf 28 = .ok (.iconst 2, 1) := by decide +kernel
theorem dX7_callerOf_29 : decode cX7_callerOf 29 = .ok (.if_icmp .ne 12, 3) := by decide +kernel
theorem dX7_callerOf_32 : decode cX7_callerOf 32 = .ok (.aload_n 0, 1) := by decide +kernel
theorem dX7_callerOf_33 : decode cX7_callerOf 33 = .ok (.getfield 22, 3) := by decide +kernel
theorem dX7_callerOf_36 : decode cX7_callerOf 36 = .ok (.iload_n 1, 1) := by decide +kernel
theorem dX7_callerOf_37 : decode cX7_callerOf 37 = .ok (.iaload, 1) := by decide +kernel
theorem dX7_callerOf_38 : decode cX7_callerOf 38 = .ok (.goto 9, 3) := by decide +kernel
theorem dX7_callerOf_41 : decode cX7_callerOf 41 = .ok (.aload_n 0, 1) := by decide +kernel
theorem dX7_callerOf_42 : decode cX7_callerOf 42 = .ok (.getfield 25, 3) := by decide +kernel
theorem dX7_callerOf_45 : decode cX7_callerOf 45 = .ok (.iload_n 1, 1) := by decide +kernel
theorem dX7_callerOf_46 : decode cX7_callerOf 46 = .ok (.iaload, 1) := by decide +kernel
theorem dX7_callerOf_47 : decode cX7_callerOf 47 = .ok (.ireturn, 1) := by decide +kernel
theorem dX7_caller_0 : decode cX7_caller 0 = .ok (.aload_n 0, 1) := by decide +kernel
theorem dX7_caller_1 : decode cX7_caller 1 = .ok (.iload_n 1, 1) := by decide +kernel
theorem dX7_caller_2 : decode cX7_caller 2 = .ok (.invokevirtual 138, 3) := by decide +kernel
theorem dX7_caller_5 : decode cX7_caller 5 = .ok (.ifCond .eq 21, 3) := by decide +kernel
theorem dX7_caller_8 : decode cX7_caller 8 = .ok (.iload_n 2, 1) := by decide +kernel
theorem dX7_caller_9 : decode cX7_caller 9 = .ok (.iconst 0, 1) := by decide +kernel
theorem dX7_caller_10 : decode cX7_caller 10 = .ok (.iconst 3, 1) := by decide +kernel
theorem dX7_caller_11 : decode cX7_caller 11 = .ok (.invokestatic 100, 3) := by decide +kernel
theorem dX7_caller_14 : decode cX7_caller 14 = .ok (.ifCond .eq 12, 3) := by decide +kernel
theorem dX7_caller_17 : decode cX7_caller 17 = .ok (.aload_n 0, 1) := by decide +kernel
theorem dX7_caller_18 : decode cX7_caller 18 = .ok (.iload_n 1, 1) := by decide +kernel
theorem dX7_caller_19 : decode cX7_caller 19 = .ok (.iload_n 2, 1) := by decide +kernel
theorem dX7_caller_20 : decode cX7_caller 20 = .ok (.invokevirtual 141, 3) := by decide +kernel
theorem dX7_caller_23 : decode cX7_caller 23 = .ok (.goto 5, 3) := by decide +kernel
theorem dX7_caller_26 : decode cX7_caller 26 = .ok (.bipush (-2), 2) := by decide +kernel
theorem dX7_caller_28 : decode cX7_caller 28 = .ok (.ireturn, 1) := by decide +kernel
theorem dX7_manOf_0 : decode cX7_manOf 0 = .ok (.iload_n 2, 1) := by decide +kernel
theorem dX7_manOf_1 : decode cX7_manOf 1 = .ok (.ifCond .ne 12, 3) := by decide +kernel
theorem dX7_manOf_4 : decode cX7_manOf 4 = .ok (.aload_n 0, 1) := by decide +kernel
theorem dX7_manOf_5 : decode cX7_manOf 5 = .ok (.getfield 28, 3) := by decide +kernel
theorem dX7_manOf_8 : decode cX7_manOf 8 = .ok (.iload_n 1, 1) := by decide +kernel
theorem dX7_manOf_9 : decode cX7_manOf 9 = .ok (.iaload, 1) := by decide +kernel
theorem dX7_manOf_10 : decode cX7_manOf 10 = .ok (.goto 23, 3) := by decide +kernel
theorem dX7_manOf_13 : decode cX7_manOf 13 = .ok (.iload_n 2, 1) := by decide +kernel
theorem dX7_manOf_14 : decode cX7_manOf 14 = .ok (.iconst 1, 1) := by decide +kernel
theorem dX7_manOf_15 : decode cX7_manOf 15 = .ok (.if_icmp .ne 12, 3) := by decide +kernel
theorem dX7_manOf_18 : decode cX7_manOf 18 = .ok (.aload_n 0, 1) := by decide +kernel
theorem dX7_manOf_19 : decode cX7_manOf 19 = .ok (.getfield 31, 3) := by decide +kernel
theorem dX7_manOf_22 : decode cX7_manOf 22 = .ok (.iload_n 1, 1) := by decide +kernel
theorem dX7_manOf_23 : decode cX7_manOf 23 = .ok (.iaload, 1) := by decide +kernel
theorem dX7_manOf_24 : decode cX7_manOf 24 = .ok (.goto 9, 3) := by decide +kernel
theorem dX7_manOf_27 : decode cX7_manOf 27 = .ok (.aload_n 0, 1) := by decide +kernel
theorem dX7_manOf_28 : decode cX7_manOf 28 = .ok (.getfield 34, 3) := by decide +kernel
theorem dX7_manOf_31 : decode cX7_manOf 31 = .ok (.iload_n 1, 1) := by decide +kernel
theorem dX7_manOf_32 : decode cX7_manOf 32 = .ok (.iaload, 1) := by decide +kernel
theorem dX7_manOf_33 : decode cX7_manOf 33 = .ok (.ireturn, 1) := by decide +kernel
theorem dX7_man_0 : decode cX7_man 0 = .ok (.aload_n 0, 1) := by decide +kernel
theorem dX7_man_1 : decode cX7_man 1 = .ok (.iload_n 1, 1) := by decide +kernel
theorem dX7_man_2 : decode cX7_man 2 = .ok (.invokevirtual 144, 3) := by decide +kernel
theorem dX7_man_5 : decode cX7_man 5 = .ok (.ifCond .eq 21, 3) := by decide +kernel
theorem dX7_man_8 : decode cX7_man 8 = .ok (.iload_n 2, 1) := by decide +kernel
theorem dX7_man_9 : decode cX7_man 9 = .ok (.iconst 0, 1) := by decide +kernel
theorem dX7_man_10 : decode cX7_man 10 = .ok (.iconst 2, 1) := by decide +kernel
theorem dX7_man_11 : decode cX7_man 11 = .ok (.invokestatic 100, 3) := by decide +kernel
theorem dX7_man_14 : decode cX7_man 14 = .ok (.ifCond .eq 12, 3) := by decide +kernel
theorem dX7_man_17 : decode cX7_man 17 = .ok (.aload_n 0, 1) := by decide +kernel
theorem dX7_man_18 : decode cX7_man 18 = .ok (.iload_n 1, 1) := by decide +kernel
theorem dX7_man_19 : decode cX7_man 19 = .ok (.iload_n 2, 1) := by decide +kernel
theorem dX7_man_20 : decode cX7_man 20 = .ok (.invokevirtual 147, 3) := by decide +kernel
theorem dX7_man_23 : decode cX7_man 23 = .ok (.goto 5, 3) := by decide +kernel
theorem dX7_man_26 : decode cX7_man 26 = .ok (.bipush (-2), 2) := by decide +kernel
theorem dX7_man_28 : decode cX7_man 28 = .ok (.ireturn, 1) := by decide +kernel
theorem dX7_card_0 : decode cX7_card 0 = .ok (.iload_n 1, 1) := by decide +kernel
theorem dX7_card_1 : decode cX7_card 1 = .ok (.invokestatic 150, 3) := by decide +kernel
theorem dX7_card_4 : decode cX7_card 4 = .ok (.ifCond .eq 13, 3) := by decide +kernel
theorem dX7_card_7 : decode cX7_card 7 = .ok (.iload_n 2, 1) := by decide +kernel
theorem dX7_card_8 : decode cX7_card 8 = .ok (.iconst 0, 1) := by decide +kernel
theorem dX7_card_9 : decode cX7_card 9 = .ok (.bipush 7, 2) := by decide +kernel
theorem dX7_card_11 : decode cX7_card 11 = .ok (.invokestatic 100, 3) := by decide +kernel
theorem dX7_card_14 : decode cX7_card 14 = .ok (.ifCond .ne 6, 3) := by decide +kernel
theorem dX7_card_17 : decode cX7_card 17 = .ok (.bipush (-2), 2) := by decide +kernel
theorem dX7_card_19 : decode cX7_card 19 = .ok (.ireturn, 1) := by decide +kernel
theorem dX7_card_20 : decode cX7_card 20 = .ok (.aload_n 0, 1) := by decide +kernel
theorem dX7_card_21 : decode cX7_card 21 = .ok (.getfield 153, 3) := by decide +kernel
theorem dX7_card_24 : decode cX7_card 24 = .ok (.bipush 8, 2) := by decide +kernel
theorem dX7_card_26 : decode cX7_card 26 = .ok (.if_icmp .ne 6, 3) := by decide +kernel
theorem dX7_card_29 : decode cX7_card 29 = .ok (.bipush (-4), 2) := by decide +kernel
theorem dX7_card_31 : decode cX7_card 31 = .ok (.ireturn, 1) := by decide +kernel
theorem dX7_card_32 : decode cX7_card 32 = .ok (.aload_n 0, 1) := by decide +kernel
theorem dX7_card_33 : decode cX7_card 33 = .ok (.getfield 37, 3) := by decide +kernel
theorem dX7_card_36 : decode cX7_card 36 = .ok (.aload_n 0, 1) := by decide +kernel
theorem dX7_card_37 : decode cX7_card 37 = .ok (.getfield 153, 3) := by decide +kernel
theorem dX7_card_40 : decode cX7_card 40 = .ok (.iload_n 1, 1) := by decide +kernel
theorem dX7_card_41 : decode cX7_card 41 = .ok (.iastore, 1) := by decide +kernel
theorem dX7_card_42 : decode cX7_card 42 = .ok (.aload_n 0, 1) := by decide +kernel
theorem dX7_card_43 : decode cX7_card 43 = .ok (.getfield 40, 3) := by decide +kernel
theorem dX7_card_46 : decode cX7_card 46 = .ok (.aload_n 0, 1) := by decide +kernel
theorem dX7_card_47 : decode cX7_card 47 = .ok (.getfield 153, 3) := by decide +kernel
theorem dX7_card_50 : decode cX7_card 50 = .ok (.iload_n 2, 1) := by decide +kernel
theorem dX7_card_51 : decode cX7_card 51 = .ok (.iastore, 1) := by decide +kernel
theorem dX7_card_52 : decode cX7_card 52 = .ok (.aload_n 0, 1) := by decide +kernel
theorem dX7_card_53 : decode cX7_card 53 = .ok (.dup, 1) := by decide +kernel
theorem dX7_card_54 : decode cX7_card 54 = .ok (.getfield 153, 3) := by decide +kernel
theorem dX7_card_57 : decode cX7_card 57 = .ok (.iconst 1, 1) := by decide +kernel
theorem dX7_card_58 : decode cX7_card 58 = .ok (.iadd, 1) := by decide +kernel
theorem dX7_card_59 : decode cX7_card 59 = .ok (.putfield 153, 3) := by decide +kernel
theorem dX7_card_62 : decode cX7_card 62 = .ok (.aload_n 0, 1) := by decide +kernel
theorem dX7_card_63 : decode cX7_card 63 = .ok (.getfield 153, 3) := by decide +kernel
theorem dX7_card_66 : decode cX7_card 66 = .ok (.ireturn, 1) := by decide +kernel
theorem dX7_back_0 : decode cX7_back 0 = .ok (.aload_n 0, 1) := by decide +kernel
theorem dX7_back_1 : decode cX7_back 1 = .ok (.getfield 153, 3) := by decide +kernel
theorem dX7_back_4 : decode cX7_back 4 = .ok (.ifCond .ne 6, 3) := by decide +kernel
theorem dX7_back_7 : decode cX7_back 7 = .ok (.bipush (-3), 2) := by decide +kernel
theorem dX7_back_9 : decode cX7_back 9 = .ok (.ireturn, 1) := by decide +kernel
theorem dX7_back_10 : decode cX7_back 10 = .ok (.aload_n 0, 1) := by decide +kernel
theorem dX7_back_11 : decode cX7_back 11 = .ok (.dup, 1) := by decide +kernel
theorem dX7_back_12 : decode cX7_back 12 = .ok (.getfield 153, 3) := by decide +kernel
theorem dX7_back_15 : decode cX7_back 15 = .ok (.iconst 1, 1) := by decide +kernel
theorem dX7_back_16 : decode cX7_back 16 = .ok (.isub, 1) := by decide +kernel
theorem dX7_back_17 : decode cX7_back 17 = .ok (.putfield 153, 3) := by decide +kernel
theorem dX7_back_20 : decode cX7_back 20 = .ok (.aload_n 0, 1) := by decide +kernel
theorem dX7_back_21 : decode cX7_back 21 = .ok (.getfield 153, 3) := by decide +kernel
theorem dX7_back_24 : decode cX7_back 24 = .ok (.ireturn, 1) := by decide +kernel
theorem dX7_read_0 : decode cX7_read 0 = .ok (.iload_n 1, 1) := by decide +kernel
theorem dX7_read_1 : decode cX7_read 1 = .ok (.invokestatic 156, 3) := by decide +kernel
theorem dX7_read_4 : decode cX7_read 4 = .ok (.ifCond .ne 6, 3) := by decide +kernel
theorem dX7_read_7 : decode cX7_read 7 = .ok (.bipush (-2), 2) := by decide +kernel
theorem dX7_read_9 : decode cX7_read 9 = .ok (.ireturn, 1) := by decide +kernel
theorem dX7_read_10 : decode cX7_read 10 = .ok (.aload_n 0, 1) := by decide +kernel
theorem dX7_read_11 : decode cX7_read 11 = .ok (.getfield 82, 3) := by decide +kernel
theorem dX7_read_14 : decode cX7_read 14 = .ok (.iload_n 1, 1) := by decide +kernel
theorem dX7_read_15 : decode cX7_read 15 = .ok (.baload, 1) := by decide +kernel
theorem dX7_read_16 : decode cX7_read 16 = .ok (.ifCond .ne 9, 3) := by decide +kernel
theorem dX7_read_19 : decode cX7_read 19 = .ok (.aload_n 0, 1) := by decide +kernel
theorem dX7_read_20 : decode cX7_read 20 = .ok (.iconst 1, 1) := by decide +kernel
theorem dX7_read_21 : decode cX7_read 21 = .ok (.invokevirtual 159, 3) := by decide +kernel
theorem dX7_read_24 : decode cX7_read 24 = .ok (.ireturn, 1) := by decide +kernel
theorem dX7_read_25 : decode cX7_read 25 = .ok (.iconst 0, 1) := by decide +kernel
theorem dX7_read_26 : decode cX7_read 26 = .ok (.istore_n 2, 1) := by decide +kernel
theorem dX7_read_27 : decode cX7_read 27 = .ok (.iconst 2, 1) := by decide +kernel
theorem dX7_read_28 : decode cX7_read 28 = .ok (.iload_n 2, 1) := by decide +kernel
theorem dX7_read_29 : decode cX7_read 29 = .ok (.imul, 1) := by decide +kernel
theorem dX7_read_30 : decode cX7_read 30 = .ok (.iconst 1, 1) := by decide +kernel
theorem dX7_read_31 : decode cX7_read 31 = .ok (.iadd, 1) := by decide +kernel
theorem dX7_read_32 : decode cX7_read 32 = .ok (.aload_n 0, 1) := by decide +kernel
theorem dX7_read_33 : decode cX7_read 33 = .ok (.getfield 89, 3) := by decide +kernel
theorem dX7_read_36 : decode cX7_read 36 = .ok (.iload_n 1, 1) := by decide +kernel
theorem dX7_read_37 : decode cX7_read 37 = .ok (.iaload, 1) := by decide +kernel
theorem dX7_read_38 : decode cX7_read 38 = .ok (.if_icmp .ge 44, 3) := by decide +kernel
theorem dX7_read_41 : decode cX7_read 41 = .ok (.aload_n 0, 1) := by decide +kernel
theorem dX7_read_42 : decode cX7_read 42 = .ok (.aload_n 0, 1) := by decide +kernel
theorem dX7_read_43 : decode cX7_read 43 = .ok (.getfield 92, 3) := by decide +kernel
theorem dX7_read_46 : decode cX7_read 46 = .ok (.bipush 60, 2) := by decide +kernel
theorem dX7_read_48 : decode cX7_read 48 = .ok (.iload_n 1, 1) := by decide +kernel
theorem dX7_read_49 : decode cX7_read 49 = .ok (.imul, 1) := by decide +kernel
theorem dX7_read_50 : decode cX7_read 50 = .ok (.iconst 2, 1) := by decide +kernel
theorem dX7_read_51 : decode cX7_read 51 = .ok (.iload_n 2, 1) := by decide +kernel
theorem dX7_read_52 : decode cX7_read 52 = .ok (.imul, 1) := by decide +kernel
theorem dX7_read_53 : decode cX7_read 53 = .ok (.iadd, 1) := by decide +kernel
theorem dX7_read_54 : decode cX7_read 54 = .ok (.iaload, 1) := by decide +kernel
theorem dX7_read_55 : decode cX7_read 55 = .ok (.aload_n 0, 1) := by decide +kernel
theorem dX7_read_56 : decode cX7_read 56 = .ok (.getfield 92, 3) := by decide +kernel
theorem dX7_read_59 : decode cX7_read 59 = .ok (.bipush 60, 2) := by decide +kernel
theorem dX7_read_61 : decode cX7_read 61 = .ok (.iload_n 1, 1) := by decide +kernel
theorem dX7_read_62 : decode cX7_read 62 = .ok (.imul, 1) := by decide +kernel
theorem dX7_read_63 : decode cX7_read 63 = .ok (.iconst 2, 1) := by decide +kernel
theorem dX7_read_64 : decode cX7_read 64 = .ok (.iload_n 2, 1) := by decide +kernel
theorem dX7_read_65 : decode cX7_read 65 = .ok (.imul, 1) := by decide +kernel
theorem dX7_read_66 : decode cX7_read 66 = .ok (.iadd, 1) := by decide +kernel
theorem dX7_read_67 : decode cX7_read 67 = .ok (.iconst 1, 1) := by decide +kernel
theorem dX7_read_68 : decode cX7_read 68 = .ok (.iadd, 1) := by decide +kernel
theorem dX7_read_69 : decode cX7_read 69 = .ok (.iaload, 1) := by decide +kernel
theorem dX7_read_70 : decode cX7_read 70 = .ok (.invokevirtual 162, 3) := by decide +kernel
theorem dX7_read_73 : decode cX7_read 73 = .ok (.ifCond .le 9, 3) := by decide +kernel
theorem dX7_read_76 : decode cX7_read 76 = .ok (.iinc 2 1, 3) := by decide +kernel
theorem dX7_read_79 : decode cX7_read 79 = .ok (.goto (-52), 3) := by decide +kernel
theorem dX7_read_82 : decode cX7_read 82 = .ok (.iload_n 2, 1) := by decide +kernel
theorem dX7_read_83 : decode cX7_read 83 = .ok (.ireturn, 1) := by decide +kernel
theorem dX7_asTold_0 : decode cX7_asTold 0 = .ok (.aload_n 0, 1) := by decide +kernel
theorem dX7_asTold_1 : decode cX7_asTold 1 = .ok (.invokevirtual 135, 3) := by decide +kernel
theorem dX7_asTold_4 : decode cX7_asTold 4 = .ok (.aload_n 0, 1) := by decide +kernel
theorem dX7_asTold_5 : decode cX7_asTold 5 = .ok (.aload_n 0, 1) := by decide +kernel
theorem dX7_asTold_6 : decode cX7_asTold 6 = .ok (.getfield 153, 3) := by decide +kernel
theorem dX7_asTold_9 : decode cX7_asTold 9 = .ok (.putfield 165, 3) := by decide +kernel
theorem dX7_asTold_12 : decode cX7_asTold 12 = .ok (.iconst 0, 1) := by decide +kernel
theorem dX7_asTold_13 : decode cX7_asTold 13 = .ok (.istore_n 1, 1) := by decide +kernel
theorem dX7_asTold_14 : decode cX7_asTold 14 = .ok (.iload_n 1, 1) := by decide +kernel
theorem dX7_asTold_15 : decode cX7_asTold 15 = .ok (.aload_n 0, 1) := by decide +kernel
theorem dX7_asTold_16 : decode cX7_asTold 16 = .ok (.getfield 153, 3) := by decide +kernel
theorem dX7_asTold_19 : decode cX7_asTold 19 = .ok (.if_icmp .ge 33, 3) := by decide +kernel
theorem dX7_asTold_22 : decode cX7_asTold 22 = .ok (.aload_n 0, 1) := by decide +kernel
theorem dX7_asTold_23 : decode cX7_asTold 23 = .ok (.getfield 43, 3) := by decide +kernel
theorem dX7_asTold_26 : decode cX7_asTold 26 = .ok (.iload_n 1, 1) := by decide +kernel
theorem dX7_asTold_27 : decode cX7_asTold 27 = .ok (.aload_n 0, 1) := by decide +kernel
theorem dX7_asTold_28 : decode cX7_asTold 28 = .ok (.getfield 37, 3) := by decide +kernel
theorem dX7_asTold_31 : decode cX7_asTold 31 = .ok (.iload_n 1, 1) := by decide +kernel
theorem dX7_asTold_32 : decode cX7_asTold 32 = .ok (.iaload, 1) := by decide +kernel
theorem dX7_asTold_33 : decode cX7_asTold 33 = .ok (.iastore, 1) := by decide +kernel
theorem dX7_asTold_34 : decode cX7_asTold 34 = .ok (.aload_n 0, 1) := by decide +kernel
theorem dX7_asTold_35 : decode cX7_asTold 35 = .ok (.getfield 46, 3) := by decide +kernel
theorem dX7_asTold_38 : decode cX7_asTold 38 = .ok (.iload_n 1, 1) := by decide +kernel
theorem dX7_asTold_39 : decode cX7_asTold 39 = .ok (.aload_n 0, 1) := by decide +kernel
theorem dX7_asTold_40 : decode cX7_asTold 40 = .ok (.getfield 40, 3) := by decide +kernel
theorem dX7_asTold_43 : decode cX7_asTold 43 = .ok (.iload_n 1, 1) := by decide +kernel
theorem dX7_asTold_44 : decode cX7_asTold 44 = .ok (.iaload, 1) := by decide +kernel
theorem dX7_asTold_45 : decode cX7_asTold 45 = .ok (.iastore, 1) := by decide +kernel
theorem dX7_asTold_46 : decode cX7_asTold 46 = .ok (.iinc 1 1, 3) := by decide +kernel
theorem dX7_asTold_49 : decode cX7_asTold 49 = .ok (.goto (-35), 3) := by decide +kernel
theorem dX7_asTold_52 : decode cX7_asTold 52 = .ok (.aload_n 0, 1) := by decide +kernel
theorem dX7_asTold_53 : decode cX7_asTold 53 = .ok (.iconst 0, 1) := by decide +kernel
theorem dX7_asTold_54 : decode cX7_asTold 54 = .ok (.putfield 168, 3) := by decide +kernel
theorem dX7_asTold_57 : decode cX7_asTold 57 = .ok (.return_, 1) := by decide +kernel
theorem dX7_letsIn_0 : decode cX7_letsIn 0 = .ok (.aload_n 0, 1) := by decide +kernel
theorem dX7_letsIn_1 : decode cX7_letsIn 1 = .ok (.getfield 49, 3) := by decide +kernel
theorem dX7_letsIn_4 : decode cX7_letsIn 4 = .ok (.iload_n 1, 1) := by decide +kernel
theorem dX7_letsIn_5 : decode cX7_letsIn 5 = .ok (.iconst 2, 1) := by decide +kernel
theorem dX7_letsIn_6 : decode cX7_letsIn 6 = .ok (.iastore, 1) := by decide +kernel
theorem dX7_letsIn_7 : decode cX7_letsIn 7 = .ok (.aload_n 0, 1) := by decide +kernel
theorem dX7_letsIn_8 : decode cX7_letsIn 8 = .ok (.getfield 52, 3) := by decide +kernel
theorem dX7_letsIn_11 : decode cX7_letsIn 11 = .ok (.iload_n 1, 1) := by decide +kernel
theorem dX7_letsIn_12 : decode cX7_letsIn 12 = .ok (.iload_n 2, 1) := by decide +kernel
theorem dX7_letsIn_13 : decode cX7_letsIn 13 = .ok (.iastore, 1) := by decide +kernel
theorem dX7_letsIn_14 : decode cX7_letsIn 14 = .ok (.aload_n 0, 1) := by decide +kernel
theorem dX7_letsIn_15 : decode cX7_letsIn 15 = .ok (.getfield 55, 3) := by decide +kernel
theorem dX7_letsIn_18 : decode cX7_letsIn 18 = .ok (.iload_n 1, 1) := by decide +kernel
theorem dX7_letsIn_19 : decode cX7_letsIn 19 = .ok (.iload_n 3, 1) := by decide +kernel
theorem dX7_letsIn_20 : decode cX7_letsIn 20 = .ok (.iastore, 1) := by decide +kernel
theorem dX7_letsIn_21 : decode cX7_letsIn 21 = .ok (.return_, 1) := by decide +kernel
theorem dX7_arrives_0 : decode cX7_arrives 0 = .ok (.iconst 0, 1) := by decide +kernel
theorem dX7_arrives_1 : decode cX7_arrives 1 = .ok (.istore_n 2, 1) := by decide +kernel
theorem dX7_arrives_2 : decode cX7_arrives 2 = .ok (.iload_n 2, 1) := by decide +kernel
theorem dX7_arrives_3 : decode cX7_arrives 3 = .ok (.aload_n 0, 1) := by decide +kernel
theorem dX7_arrives_4 : decode cX7_arrives 4 = .ok (.getfield 116, 3) := by decide +kernel
theorem dX7_arrives_7 : decode cX7_arrives 7 = .ok (.if_icmp .ge 52, 3) := by decide +kernel
theorem dX7_arrives_10 : decode cX7_arrives 10 = .ok (.aload_n 0, 1) := by decide +kernel
theorem dX7_arrives_11 : decode cX7_arrives 11 = .ok (.getfield 49, 3) := by decide +kernel
theorem dX7_arrives_14 : decode cX7_arrives 14 = .ok (.iload_n 2, 1) := by decide +kernel
theorem dX7_arrives_15 : decode cX7_arrives 15 = .ok (.aload_n 0, 1) := by decide +kernel
theorem dX7_arrives_16 : decode cX7_arrives 16 = .ok (.getfield 49, 3) := by decide +kernel
theorem dX7_arrives_19 : decode cX7_arrives 19 = .ok (.iload_n 2, 1) := by decide +kernel
theorem dX7_arrives_20 : decode cX7_arrives 20 = .ok (.iaload, 1) := by decide +kernel
theorem dX7_arrives_21 : decode cX7_arrives 21 = .ok (.iconst 2, 1) := by decide +kernel
theorem dX7_arrives_22 : decode cX7_arrives 22 = .ok (.if_icmp .ne 24, 3) := by decide +kernel
theorem dX7_arrives_25 : decode cX7_arrives 25 = .ok (.iload_n 1, 1) := by decide +kernel
theorem dX7_arrives_26 : decode cX7_arrives 26 = .ok (.aload_n 0, 1) := by decide +kernel
theorem dX7_arrives_27 : decode cX7_arrives 27 = .ok (.getfield 52, 3) := by decide +kernel
theorem dX7_arrives_30 : decode cX7_arrives 30 = .ok (.iload_n 2, 1) := by decide +kernel
theorem dX7_arrives_31 : decode cX7_arrives 31 = .ok (.iaload, 1) := by decide +kernel
theorem dX7_arrives_32 : decode cX7_arrives 32 = .ok (.isub, 1) := by decide +kernel
theorem dX7_arrives_33 : decode cX7_arrives 33 = .ok (.aload_n 0, 1) := by decide +kernel
theorem dX7_arrives_34 : decode cX7_arrives 34 = .ok (.getfield 25, 3) := by decide +kernel
theorem dX7_arrives_37 : decode cX7_arrives 37 = .ok (.iload_n 2, 1) := by decide +kernel
theorem dX7_arrives_38 : decode cX7_arrives 38 = .ok (.iaload, 1) := by decide +kernel
theorem dX7_arrives_39 : decode cX7_arrives 39 = .ok (.if_icmp .ne 7, 3) := by decide +kernel
theorem dX7_arrives_42 : decode cX7_arrives 42 = .ok (.iconst 3, 1) := by decide +kernel
theorem dX7_arrives_43 : decode cX7_arrives 43 = .ok (.goto 9, 3) := by decide +kernel
theorem dX7_arrives_46 : decode cX7_arrives 46 = .ok (.aload_n 0, 1) := by decide +kernel
theorem dX7_arrives_47 : decode cX7_arrives 47 = .ok (.getfield 49, 3) := by decide +kernel
theorem dX7_arrives_50 : decode cX7_arrives 50 = .ok (.iload_n 2, 1) := by decide +kernel
theorem dX7_arrives_51 : decode cX7_arrives 51 = .ok (.iaload, 1) := by decide +kernel
theorem dX7_arrives_52 : decode cX7_arrives 52 = .ok (.iastore, 1) := by decide +kernel
theorem dX7_arrives_53 : decode cX7_arrives 53 = .ok (.iinc 2 1, 3) := by decide +kernel
theorem dX7_arrives_56 : decode cX7_arrives 56 = .ok (.goto (-54), 3) := by decide +kernel
theorem dX7_arrives_59 : decode cX7_arrives 59 = .ok (.iconst 0, 1) := by decide +kernel
theorem dX7_arrives_60 : decode cX7_arrives 60 = .ok (.istore_n 2, 1) := by decide +kernel
theorem dX7_arrives_61 : decode cX7_arrives 61 = .ok (.iload_n 2, 1) := by decide +kernel
theorem dX7_arrives_62 : decode cX7_arrives 62 = .ok (.aload_n 0, 1) := by decide +kernel
theorem dX7_arrives_63 : decode cX7_arrives 63 = .ok (.getfield 116, 3) := by decide +kernel
theorem dX7_arrives_66 : decode cX7_arrives 66 = .ok (.if_icmp .ge 56, 3) := by decide +kernel
theorem dX7_arrives_69 : decode cX7_arrives 69 = .ok (.aload_n 0, 1) := by decide +kernel
theorem dX7_arrives_70 : decode cX7_arrives 70 = .ok (.getfield 22, 3) := by decide +kernel
theorem dX7_arrives_73 : decode cX7_arrives 73 = .ok (.iload_n 2, 1) := by decide +kernel
theorem dX7_arrives_74 : decode cX7_arrives 74 = .ok (.iaload, 1) := by decide +kernel
theorem dX7_arrives_75 : decode cX7_arrives 75 = .ok (.iload_n 1, 1) := by decide +kernel
theorem dX7_arrives_76 : decode cX7_arrives 76 = .ok (.if_icmp .ne 23, 3) := by decide +kernel
theorem dX7_arrives_79 : decode cX7_arrives 79 = .ok (.aload_n 0, 1) := by decide +kernel
theorem dX7_arrives_80 : decode cX7_arrives 80 = .ok (.getfield 16, 3) := by decide +kernel
theorem dX7_arrives_83 : decode cX7_arrives 83 = .ok (.iload_n 2, 1) := by decide +kernel
theorem dX7_arrives_84 : decode cX7_arrives 84 = .ok (.iaload, 1) := by decide +kernel
theorem dX7_arrives_85 : decode cX7_arrives 85 = .ok (.iconst 2, 1) := by decide +kernel
theorem dX7_arrives_86 : decode cX7_arrives 86 = .ok (.if_icmp .ne 13, 3) := by decide +kernel
theorem dX7_arrives_89 : decode cX7_arrives 89 = .ok (.aload_n 0, 1) := by decide +kernel
theorem dX7_arrives_90 : decode cX7_arrives 90 = .ok (.iload_n 2, 1) := by decide +kernel
theorem dX7_arrives_91 : decode cX7_arrives 91 = .ok (.iload_n 1, 1) := by decide +kernel
theorem dX7_arrives_92 : decode cX7_arrives 92 = .ok (.iconst 2, 1) := by decide +kernel
theorem dX7_arrives_93 : decode cX7_arrives 93 = .ok (.invokevirtual 171, 3) := by decide +kernel
theorem dX7_arrives_96 : decode cX7_arrives 96 = .ok (.goto 20, 3) := by decide +kernel
theorem dX7_arrives_99 : decode cX7_arrives 99 = .ok (.aload_n 0, 1) := by decide +kernel
theorem dX7_arrives_100 : decode cX7_arrives 100 = .ok (.getfield 22, 3) := by decide +kernel
theorem dX7_arrives_103 : decode cX7_arrives 103 = .ok (.iload_n 2, 1) := by decide +kernel
theorem dX7_arrives_104 : decode cX7_arrives 104 = .ok (.iaload, 1) := by decide +kernel
theorem dX7_arrives_105 : decode cX7_arrives 105 = .ok (.iload_n 1, 1) := by decide +kernel
theorem dX7_arrives_106 : decode cX7_arrives 106 = .ok (.if_icmp .ne 10, 3) := by decide +kernel
theorem dX7_arrives_109 : decode cX7_arrives 109 = .ok (.aload_n 0, 1) := by decide +kernel
theorem dX7_arrives_110 : decode cX7_arrives 110 = .ok (.getfield 49, 3) := by decide +kernel
theorem dX7_arrives_113 : decode cX7_arrives 113 = .ok (.iload_n 2, 1) := by decide +kernel
theorem dX7_arrives_114 : decode cX7_arrives 114 = .ok (.iconst 1, 1) := by decide +kernel
theorem dX7_arrives_115 : decode cX7_arrives 115 = .ok (.iastore, 1) := by decide +kernel
theorem dX7_arrives_116 : decode cX7_arrives 116 = .ok (.iinc 2 1, 3) := by decide +kernel
theorem dX7_arrives_119 : decode cX7_arrives 119 = .ok (.goto (-58), 3) := by decide +kernel
theorem dX7_arrives_122 : decode cX7_arrives 122 = .ok (.return_, 1) := by decide +kernel
theorem dX7_onDuty_0 : decode cX7_onDuty 0 = .ok (.iconst 0, 1) := by decide +kernel
theorem dX7_onDuty_1 : decode cX7_onDuty 1 = .ok (.istore_n 2, 1) := by decide +kernel
theorem dX7_onDuty_2 : decode cX7_onDuty 2 = .ok (.iload_n 2, 1) := by decide +kernel
theorem dX7_onDuty_3 : decode cX7_onDuty 3 = .ok (.aload_n 0, 1) := by decide +kernel
theorem dX7_onDuty_4 : decode cX7_onDuty 4 = .ok (.getfield 120, 3) := by decide +kernel
theorem dX7_onDuty_7 : decode cX7_onDuty 7 = .ok (.if_icmp .ge 30, 3) := by decide +kernel
theorem dX7_onDuty_10 : decode cX7_onDuty 10 = .ok (.iload_n 1, 1) := by decide +kernel
theorem dX7_onDuty_11 : decode cX7_onDuty 11 = .ok (.aload_n 0, 1) := by decide +kernel
theorem dX7_onDuty_12 : decode cX7_onDuty 12 = .ok (.getfield 31, 3) := by decide +kernel
theorem dX7_onDuty_15 : decode cX7_onDuty 15 = .ok (.iload_n 2, 1) := by decide +kernel
theorem dX7_onDuty_16 : decode cX7_onDuty 16 = .ok (.iaload, 1) := by decide +kernel
theorem dX7_onDuty_17 : decode cX7_onDuty 17 = .ok (.aload_n 0, 1) := by decide +kernel
theorem dX7_onDuty_18 : decode cX7_onDuty 18 = .ok (.getfield 34, 3) := by decide +kernel
theorem dX7_onDuty_21 : decode cX7_onDuty 21 = .ok (.iload_n 2, 1) := by decide +kernel
theorem dX7_onDuty_22 : decode cX7_onDuty 22 = .ok (.iaload, 1) := by decide +kernel
theorem dX7_onDuty_23 : decode cX7_onDuty 23 = .ok (.invokestatic 100, 3) := by decide +kernel
theorem dX7_onDuty_26 : decode cX7_onDuty 26 = .ok (.ifCond .eq 5, 3) := by decide +kernel
theorem dX7_onDuty_29 : decode cX7_onDuty 29 = .ok (.iload_n 2, 1) := by decide +kernel
theorem dX7_onDuty_30 : decode cX7_onDuty 30 = .ok (.ireturn, 1) := by decide +kernel
theorem dX7_onDuty_31 : decode cX7_onDuty 31 = .ok (.iinc 2 1, 3) := by decide +kernel
theorem dX7_onDuty_34 : decode cX7_onDuty 34 = .ok (.goto (-32), 3) := by decide +kernel
theorem dX7_onDuty_37 : decode cX7_onDuty 37 = .ok (.iconst (-1), 1) := by decide +kernel
theorem dX7_onDuty_38 : decode cX7_onDuty 38 = .ok (.ireturn, 1) := by decide +kernel
theorem dX7_hasCard_0 : decode cX7_hasCard 0 = .ok (.iconst 0, 1) := by decide +kernel
theorem dX7_hasCard_1 : decode cX7_hasCard 1 = .ok (.istore_n 3, 1) := by decide +kernel
theorem dX7_hasCard_2 : decode cX7_hasCard 2 = .ok (.iconst 0, 1) := by decide +kernel
theorem dX7_hasCard_3 : decode cX7_hasCard 3 = .ok (.istore 4, 2) := by decide +kernel
theorem dX7_hasCard_5 : decode cX7_hasCard 5 = .ok (.iload 4, 2) := by decide +kernel
theorem dX7_hasCard_7 : decode cX7_hasCard 7 = .ok (.aload_n 0, 1) := by decide +kernel
theorem dX7_hasCard_8 : decode cX7_hasCard 8 = .ok (.getfield 165, 3) := by decide +kernel
theorem dX7_hasCard_11 : decode cX7_hasCard 11 = .ok (.if_icmp .ge 53, 3) := by decide +kernel
theorem dX7_hasCard_14 : decode cX7_hasCard 14 = .ok (.iload_n 3, 1) := by decide +kernel
theorem dX7_hasCard_15 : decode cX7_hasCard 15 = .ok (.ifCond .ne 37, 3) := by decide +kernel
theorem dX7_hasCard_18 : decode cX7_hasCard 18 = .ok (.aload_n 0, 1) := by decide +kernel
theorem dX7_hasCard_19 : decode cX7_hasCard 19 = .ok (.getfield 46, 3) := by decide +kernel
theorem dX7_hasCard_22 : decode cX7_hasCard 22 = .ok (.iload 4, 2) := by decide +kernel
theorem dX7_hasCard_24 : decode cX7_hasCard 24 = .ok (.iaload, 1) := by decide +kernel
theorem dX7_hasCard_25 : decode cX7_hasCard 25 = .ok (.iload_n 1, 1) := by decide +kernel
theorem dX7_hasCard_26 : decode cX7_hasCard 26 = .ok (.if_icmp .ne 30, 3) := by decide +kernel
theorem dX7_hasCard_29 : decode cX7_hasCard 29 = .ok (.aload_n 0, 1) := by decide +kernel
theorem dX7_hasCard_30 : decode cX7_hasCard 30 = .ok (.getfield 43, 3) := by decide +kernel
theorem dX7_hasCard_33 : decode cX7_hasCard 33 = .ok (.iload 4, 2) := by decide +kernel
theorem dX7_hasCard_35 : decode cX7_hasCard 35 = .ok (.iaload, 1) := by decide +kernel
theorem dX7_hasCard_36 : decode cX7_hasCard 36 = .ok (.iload_n 2, 1) := by decide +kernel
theorem dX7_hasCard_37 : decode cX7_hasCard 37 = .ok (.if_icmp .gt 19, 3) := by decide +kernel
theorem dX7_hasCard_40 : decode cX7_hasCard 40 = .ok (.aload_n 0, 1) := by decide +kernel
theorem dX7_hasCard_41 : decode cX7_hasCard 41 = .ok (.getfield 168, 3) := by decide +kernel
theorem dX7_hasCard_44 : decode cX7_hasCard 44 = .ok (.iload 4, 2) := by decide +kernel
theorem dX7_hasCard_46 : decode cX7_hasCard 46 = .ok (.invokestatic 175, 3) := by decide +kernel
theorem dX7_hasCard_49 : decode cX7_hasCard 49 = .ok (.ifCond .ne 7, 3) := by decide +kernel
theorem dX7_hasCard_52 : decode cX7_hasCard 52 = .ok (.iconst 1, 1) := by decide +kernel
theorem dX7_hasCard_53 : decode cX7_hasCard 53 = .ok (.goto 4, 3) := by decide +kernel
theorem dX7_hasCard_56 : decode cX7_hasCard 56 = .ok (.iconst 0, 1) := by decide +kernel
theorem dX7_hasCard_57 : decode cX7_hasCard 57 = .ok (.istore_n 3, 1) := by decide +kernel
theorem dX7_hasCard_58 : decode cX7_hasCard 58 = .ok (.iinc 4 1, 3) := by decide +kernel
theorem dX7_hasCard_61 : decode cX7_hasCard 61 = .ok (.goto (-56), 3) := by decide +kernel
theorem dX7_hasCard_64 : decode cX7_hasCard 64 = .ok (.iload_n 3, 1) := by decide +kernel
theorem dX7_hasCard_65 : decode cX7_hasCard 65 = .ok (.ireturn, 1) := by decide +kernel
theorem dX7_opens_0 : decode cX7_opens 0 = .ok (.iconst 0, 1) := by decide +kernel
theorem dX7_opens_1 : decode cX7_opens 1 = .ok (.istore_n 3, 1) := by decide +kernel
theorem dX7_opens_2 : decode cX7_opens 2 = .ok (.iload_n 3, 1) := by decide +kernel
theorem dX7_opens_3 : decode cX7_opens 3 = .ok (.aload_n 0, 1) := by decide +kernel
theorem dX7_opens_4 : decode cX7_opens 4 = .ok (.getfield 116, 3) := by decide +kernel
theorem dX7_opens_7 : decode cX7_opens 7 = .ok (.if_icmp .ge 54, 3) := by decide +kernel
theorem dX7_opens_10 : decode cX7_opens 10 = .ok (.aload_n 0, 1) := by decide +kernel
theorem dX7_opens_11 : decode cX7_opens 11 = .ok (.getfield 49, 3) := by decide +kernel
theorem dX7_opens_14 : decode cX7_opens 14 = .ok (.iload_n 3, 1) := by decide +kernel
theorem dX7_opens_15 : decode cX7_opens 15 = .ok (.aload_n 0, 1) := by decide +kernel
theorem dX7_opens_16 : decode cX7_opens 16 = .ok (.getfield 49, 3) := by decide +kernel
theorem dX7_opens_19 : decode cX7_opens 19 = .ok (.iload_n 3, 1) := by decide +kernel
theorem dX7_opens_20 : decode cX7_opens 20 = .ok (.iaload, 1) := by decide +kernel
theorem dX7_opens_21 : decode cX7_opens 21 = .ok (.iconst 1, 1) := by decide +kernel
theorem dX7_opens_22 : decode cX7_opens 22 = .ok (.if_icmp .ne 26, 3) := by decide +kernel
theorem dX7_opens_25 : decode cX7_opens 25 = .ok (.aload_n 0, 1) := by decide +kernel
theorem dX7_opens_26 : decode cX7_opens 26 = .ok (.getfield 16, 3) := by decide +kernel
theorem dX7_opens_29 : decode cX7_opens 29 = .ok (.iload_n 3, 1) := by decide +kernel
theorem dX7_opens_30 : decode cX7_opens 30 = .ok (.iaload, 1) := by decide +kernel
theorem dX7_opens_31 : decode cX7_opens 31 = .ok (.iconst 3, 1) := by decide +kernel
theorem dX7_opens_32 : decode cX7_opens 32 = .ok (.if_icmp .ne 16, 3) := by decide +kernel
theorem dX7_opens_35 : decode cX7_opens 35 = .ok (.aload_n 0, 1) := by decide +kernel
theorem dX7_opens_36 : decode cX7_opens 36 = .ok (.getfield 28, 3) := by decide +kernel
theorem dX7_opens_39 : decode cX7_opens 39 = .ok (.iload_n 1, 1) := by decide +kernel
theorem dX7_opens_40 : decode cX7_opens 40 = .ok (.iaload, 1) := by decide +kernel
theorem dX7_opens_41 : decode cX7_opens 41 = .ok (.ifCond .ne 7, 3) := by decide +kernel
theorem dX7_opens_44 : decode cX7_opens 44 = .ok (.iconst 4, 1) := by decide +kernel
theorem dX7_opens_45 : decode cX7_opens 45 = .ok (.goto 9, 3) := by decide +kernel
theorem dX7_opens_48 : decode cX7_opens 48 = .ok (.aload_n 0, 1) := by decide +kernel
theorem dX7_opens_49 : decode cX7_opens 49 = .ok (.getfield 49, 3) := by decide +kernel
theorem dX7_opens_52 : decode cX7_opens 52 = .ok (.iload_n 3, 1) := by decide +kernel
theorem dX7_opens_53 : decode cX7_opens 53 = .ok (.iaload, 1) := by decide +kernel
theorem dX7_opens_54 : decode cX7_opens 54 = .ok (.iastore, 1) := by decide +kernel
theorem dX7_opens_55 : decode cX7_opens 55 = .ok (.iinc 3 1, 3) := by decide +kernel
theorem dX7_opens_58 : decode cX7_opens 58 = .ok (.goto (-56), 3) := by decide +kernel
theorem dX7_opens_61 : decode cX7_opens 61 = .ok (.iconst (-1), 1) := by decide +kernel
theorem dX7_opens_62 : decode cX7_opens 62 = .ok (.istore_n 3, 1) := by decide +kernel
theorem dX7_opens_63 : decode cX7_opens 63 = .ok (.iconst 0, 1) := by decide +kernel
theorem dX7_opens_64 : decode cX7_opens 64 = .ok (.istore 4, 2) := by decide +kernel
theorem dX7_opens_66 : decode cX7_opens 66 = .ok (.iload 4, 2) := by decide +kernel
theorem dX7_opens_68 : decode cX7_opens 68 = .ok (.aload_n 0, 1) := by decide +kernel
theorem dX7_opens_69 : decode cX7_opens 69 = .ok (.getfield 116, 3) := by decide +kernel
theorem dX7_opens_72 : decode cX7_opens 72 = .ok (.if_icmp .ge 54, 3) := by decide +kernel
theorem dX7_opens_75 : decode cX7_opens 75 = .ok (.aload_n 0, 1) := by decide +kernel
theorem dX7_opens_76 : decode cX7_opens 76 = .ok (.getfield 49, 3) := by decide +kernel
theorem dX7_opens_79 : decode cX7_opens 79 = .ok (.iload 4, 2) := by decide +kernel
theorem dX7_opens_81 : decode cX7_opens 81 = .ok (.iaload, 1) := by decide +kernel
theorem dX7_opens_82 : decode cX7_opens 82 = .ok (.iconst 1, 1) := by decide +kernel
theorem dX7_opens_83 : decode cX7_opens 83 = .ok (.if_icmp .ne 37, 3) := by decide +kernel
theorem dX7_opens_86 : decode cX7_opens 86 = .ok (.aload_n 0, 1) := by decide +kernel
theorem dX7_opens_87 : decode cX7_opens 87 = .ok (.iload 4, 2) := by decide +kernel
theorem dX7_opens_89 : decode cX7_opens 89 = .ok (.iload_n 2, 1) := by decide +kernel
theorem dX7_opens_90 : decode cX7_opens 90 = .ok (.invokevirtual 179, 3) := by decide +kernel
theorem dX7_opens_93 : decode cX7_opens 93 = .ok (.ifCond .eq 27, 3) := by decide +kernel
theorem dX7_opens_96 : decode cX7_opens 96 = .ok (.iload_n 3, 1) := by decide +kernel
theorem dX7_opens_97 : decode cX7_opens 97 = .ok (.iconst (-1), 1) := by decide +kernel
theorem dX7_opens_98 : decode cX7_opens 98 = .ok (.if_icmp .eq 19, 3) := by decide +kernel
theorem dX7_opens_101 : decode cX7_opens 101 = .ok (.aload_n 0, 1) := by decide +kernel
theorem dX7_opens_102 : decode cX7_opens 102 = .ok (.getfield 22, 3) := by decide +kernel
theorem dX7_opens_105 : decode cX7_opens 105 = .ok (.iload 4, 2) := by decide +kernel
theorem dX7_opens_107 : decode cX7_opens 107 = .ok (.iaload, 1) := by decide +kernel
theorem dX7_opens_108 : decode cX7_opens 108 = .ok (.aload_n 0, 1) := by decide +kernel
theorem dX7_opens_109 : decode cX7_opens 109 = .ok (.getfield 22, 3) := by decide +kernel
theorem dX7_opens_112 : decode cX7_opens 112 = .ok (.iload_n 3, 1) := by decide +kernel
theorem dX7_opens_113 : decode cX7_opens 113 = .ok (.iaload, 1) := by decide +kernel
theorem dX7_opens_114 : decode cX7_opens 114 = .ok (.if_icmp .ge 6, 3) := by decide +kernel
theorem dX7_opens_117 : decode cX7_opens 117 = .ok (.iload 4, 2) := by decide +kernel
theorem dX7_opens_119 : decode cX7_opens 119 = .ok (.istore_n 3, 1) := by decide +kernel
theorem dX7_opens_120 : decode cX7_opens 120 = .ok (.iinc 4 1, 3) := by decide +kernel
theorem dX7_opens_123 : decode cX7_opens 123 = .ok (.goto (-57), 3) := by decide +kernel
theorem dX7_opens_126 : decode cX7_opens 126 = .ok (.iload_n 3, 1) := by decide +kernel
theorem dX7_opens_127 : decode cX7_opens 127 = .ok (.iconst (-1), 1) := by decide +kernel
theorem dX7_opens_128 : decode cX7_opens 128 = .ok (.if_icmp .eq 78, 3) := by decide +kernel
theorem dX7_opens_131 : decode cX7_opens 131 = .ok (.aload_n 0, 1) := by decide +kernel
theorem dX7_opens_132 : decode cX7_opens 132 = .ok (.iload_n 3, 1) := by decide +kernel
theorem dX7_opens_133 : decode cX7_opens 133 = .ok (.iload_n 2, 1) := by decide +kernel
theorem dX7_opens_134 : decode cX7_opens 134 = .ok (.aload_n 0, 1) := by decide +kernel
theorem dX7_opens_135 : decode cX7_opens 135 = .ok (.getfield 28, 3) := by decide +kernel
theorem dX7_opens_138 : decode cX7_opens 138 = .ok (.iload_n 1, 1) := by decide +kernel
theorem dX7_opens_139 : decode cX7_opens 139 = .ok (.iaload, 1) := by decide +kernel
theorem dX7_opens_140 : decode cX7_opens 140 = .ok (.iconst 1, 1) := by decide +kernel
theorem dX7_opens_141 : decode cX7_opens 141 = .ok (.if_icmp .ne 16, 3) := by decide +kernel
theorem dX7_opens_144 : decode cX7_opens 144 = .ok (.aload_n 0, 1) := by decide +kernel
theorem dX7_opens_145 : decode cX7_opens 145 = .ok (.getfield 16, 3) := by decide +kernel
theorem dX7_opens_148 : decode cX7_opens 148 = .ok (.iload_n 3, 1) := by decide +kernel
theorem dX7_opens_149 : decode cX7_opens 149 = .ok (.iaload, 1) := by decide +kernel
theorem dX7_opens_150 : decode cX7_opens 150 = .ok (.iconst 1, 1) := by decide +kernel
theorem dX7_opens_151 : decode cX7_opens 151 = .ok (.iadd, 1) := by decide +kernel
theorem dX7_opens_152 : decode cX7_opens 152 = .ok (.iconst 4, 1) := by decide +kernel
theorem dX7_opens_153 : decode cX7_opens 153 = .ok (.irem, 1) := by decide +kernel
theorem dX7_opens_154 : decode cX7_opens 154 = .ok (.goto 9, 3) := by decide +kernel
theorem dX7_opens_157 : decode cX7_opens 157 = .ok (.aload_n 0, 1) := by decide +kernel
theorem dX7_opens_158 : decode cX7_opens 158 = .ok (.getfield 16, 3) := by decide +kernel
theorem dX7_opens_161 : decode cX7_opens 161 = .ok (.iload_n 3, 1) := by decide +kernel
theorem dX7_opens_162 : decode cX7_opens 162 = .ok (.iaload, 1) := by decide +kernel
theorem dX7_opens_163 : decode cX7_opens 163 = .ok (.invokevirtual 171, 3) := by decide +kernel
theorem dX7_opens_166 : decode cX7_opens 166 = .ok (.aload_n 0, 1) := by decide +kernel
theorem dX7_opens_167 : decode cX7_opens 167 = .ok (.aload_n 0, 1) := by decide +kernel
theorem dX7_opens_168 : decode cX7_opens 168 = .ok (.getfield 182, 3) := by decide +kernel
theorem dX7_opens_171 : decode cX7_opens 171 = .ok (.iconst (-1), 1) := by decide +kernel
theorem dX7_opens_172 : decode cX7_opens 172 = .ok (.if_icmp .ne 7, 3) := by decide +kernel
theorem dX7_opens_175 : decode cX7_opens 175 = .ok (.iload_n 3, 1) := by decide +kernel
theorem dX7_opens_176 : decode cX7_opens 176 = .ok (.goto 7, 3) := by decide +kernel
theorem dX7_opens_179 : decode cX7_opens 179 = .ok (.aload_n 0, 1) := by decide +kernel
theorem dX7_opens_180 : decode cX7_opens 180 = .ok (.getfield 185, 3) := by decide +kernel
theorem dX7_opens_183 : decode cX7_opens 183 = .ok (.putfield 185, 3) := by decide +kernel
theorem dX7_opens_186 : decode cX7_opens 186 = .ok (.aload_n 0, 1) := by decide +kernel
theorem dX7_opens_187 : decode cX7_opens 187 = .ok (.aload_n 0, 1) := by decide +kernel
theorem dX7_opens_188 : decode cX7_opens 188 = .ok (.getfield 182, 3) := by decide +kernel
theorem dX7_opens_191 : decode cX7_opens 191 = .ok (.iconst (-1), 1) := by decide +kernel
theorem dX7_opens_192 : decode cX7_opens 192 = .ok (.if_icmp .ne 7, 3) := by decide +kernel
theorem dX7_opens_195 : decode cX7_opens 195 = .ok (.iload_n 2, 1) := by decide +kernel
theorem dX7_opens_196 : decode cX7_opens 196 = .ok (.goto 7, 3) := by decide +kernel
theorem dX7_opens_199 : decode cX7_opens 199 = .ok (.aload_n 0, 1) := by decide +kernel
theorem dX7_opens_200 : decode cX7_opens 200 = .ok (.getfield 182, 3) := by decide +kernel
theorem dX7_opens_203 : decode cX7_opens 203 = .ok (.putfield 182, 3) := by decide +kernel
theorem dX7_opens_206 : decode cX7_opens 206 = .ok (.return_, 1) := by decide +kernel
theorem dX7_warms_0 : decode cX7_warms 0 = .ok (.iload_n 0, 1) := by decide +kernel
theorem dX7_warms_1 : decode cX7_warms 1 = .ok (.ifCond .ne 7, 3) := by decide +kernel
theorem dX7_warms_4 : decode cX7_warms 4 = .ok (.iconst (-1), 1) := by decide +kernel
theorem dX7_warms_5 : decode cX7_warms 5 = .ok (.goto 24, 3) := by decide +kernel
theorem dX7_warms_8 : decode cX7_warms 8 = .ok (.iload_n 0, 1) := by decide +kernel
theorem dX7_warms_9 : decode cX7_warms 9 = .ok (.iconst 1, 1) := by decide +kernel
theorem dX7_warms_10 : decode cX7_warms 10 = .ok (.if_icmp .ne 8, 3) := by decide +kernel
theorem dX7_warms_13 : decode cX7_warms 13 = .ok (.bipush (-3), 2) := by decide +kernel
theorem dX7_warms_15 : decode cX7_warms 15 = .ok (.goto 14, 3) := by decide +kernel
theorem dX7_warms_18 : decode cX7_warms 18 = .ok (.iload_n 0, 1) := by decide +kernel
theorem dX7_warms_19 : decode cX7_warms 19 = .ok (.iconst 2, 1) := by decide +kernel
theorem dX7_warms_20 : decode cX7_warms 20 = .ok (.if_icmp .ne 8, 3) := by decide +kernel
theorem dX7_warms_23 : decode cX7_warms 23 = .ok (.bipush (-2), 2) := by decide +kernel
theorem dX7_warms_25 : decode cX7_warms 25 = .ok (.goto 4, 3) := by decide +kernel
theorem dX7_warms_28 : decode cX7_warms 28 = .ok (.iconst 4, 1) := by decide +kernel
theorem dX7_warms_29 : decode cX7_warms 29 = .ok (.ireturn, 1) := by decide +kernel
theorem dX7_goesBy_0 : decode cX7_goesBy 0 = .ok (.aload_n 0, 1) := by decide +kernel
theorem dX7_goesBy_1 : decode cX7_goesBy 1 = .ok (.iload_n 1, 1) := by decide +kernel
theorem dX7_goesBy_2 : decode cX7_goesBy 2 = .ok (.invokevirtual 188, 3) := by decide +kernel
theorem dX7_goesBy_5 : decode cX7_goesBy 5 = .ok (.aload_n 0, 1) := by decide +kernel
theorem dX7_goesBy_6 : decode cX7_goesBy 6 = .ok (.getfield 61, 3) := by decide +kernel
theorem dX7_goesBy_9 : decode cX7_goesBy 9 = .ok (.iload_n 1, 1) := by decide +kernel
theorem dX7_goesBy_10 : decode cX7_goesBy 10 = .ok (.aload_n 0, 1) := by decide +kernel
theorem dX7_goesBy_11 : decode cX7_goesBy 11 = .ok (.iload_n 1, 1) := by decide +kernel
theorem dX7_goesBy_12 : decode cX7_goesBy 12 = .ok (.invokevirtual 192, 3) := by decide +kernel
theorem dX7_goesBy_15 : decode cX7_goesBy 15 = .ok (.iastore, 1) := by decide +kernel
theorem dX7_goesBy_16 : decode cX7_goesBy 16 = .ok (.aload_n 0, 1) := by decide +kernel
theorem dX7_goesBy_17 : decode cX7_goesBy 17 = .ok (.getfield 61, 3) := by decide +kernel
theorem dX7_goesBy_20 : decode cX7_goesBy 20 = .ok (.iload_n 1, 1) := by decide +kernel
theorem dX7_goesBy_21 : decode cX7_goesBy 21 = .ok (.iaload, 1) := by decide +kernel
theorem dX7_goesBy_22 : decode cX7_goesBy 22 = .ok (.iconst (-1), 1) := by decide +kernel
theorem dX7_goesBy_23 : decode cX7_goesBy 23 = .ok (.if_icmp .eq 14, 3) := by decide +kernel
theorem dX7_goesBy_26 : decode cX7_goesBy 26 = .ok (.aload_n 0, 1) := by decide +kernel
theorem dX7_goesBy_27 : decode cX7_goesBy 27 = .ok (.aload_n 0, 1) := by decide +kernel
theorem dX7_goesBy_28 : decode cX7_goesBy 28 = .ok (.getfield 61, 3) := by decide +kernel
theorem dX7_goesBy_31 : decode cX7_goesBy 31 = .ok (.iload_n 1, 1) := by decide +kernel
theorem dX7_goesBy_32 : decode cX7_goesBy 32 = .ok (.iaload, 1) := by decide +kernel
theorem dX7_goesBy_33 : decode cX7_goesBy 33 = .ok (.iload_n 1, 1) := by decide +kernel
theorem dX7_goesBy_34 : decode cX7_goesBy 34 = .ok (.invokevirtual 195, 3) := by decide +kernel
theorem dX7_goesBy_37 : decode cX7_goesBy 37 = .ok (.aload_n 0, 1) := by decide +kernel
theorem dX7_goesBy_38 : decode cX7_goesBy 38 = .ok (.getfield 64, 3) := by decide +kernel
theorem dX7_goesBy_41 : decode cX7_goesBy 41 = .ok (.iload_n 1, 1) := by decide +kernel
theorem dX7_goesBy_42 : decode cX7_goesBy 42 = .ok (.iconst 0, 1) := by decide +kernel
theorem dX7_goesBy_43 : decode cX7_goesBy 43 = .ok (.iastore, 1) := by decide +kernel
theorem dX7_goesBy_44 : decode cX7_goesBy 44 = .ok (.aload_n 0, 1) := by decide +kernel
theorem dX7_goesBy_45 : decode cX7_goesBy 45 = .ok (.getfield 67, 3) := by decide +kernel
theorem dX7_goesBy_48 : decode cX7_goesBy 48 = .ok (.iload_n 1, 1) := by decide +kernel
theorem dX7_goesBy_49 : decode cX7_goesBy 49 = .ok (.iconst 0, 1) := by decide +kernel
theorem dX7_goesBy_50 : decode cX7_goesBy 50 = .ok (.iastore, 1) := by decide +kernel
theorem dX7_goesBy_51 : decode cX7_goesBy 51 = .ok (.iconst 0, 1) := by decide +kernel
theorem dX7_goesBy_52 : decode cX7_goesBy 52 = .ok (.istore_n 2, 1) := by decide +kernel
theorem dX7_goesBy_53 : decode cX7_goesBy 53 = .ok (.iload_n 2, 1) := by decide +kernel
theorem dX7_goesBy_54 : decode cX7_goesBy 54 = .ok (.aload_n 0, 1) := by decide +kernel
theorem dX7_goesBy_55 : decode cX7_goesBy 55 = .ok (.getfield 116, 3) := by decide +kernel
theorem dX7_goesBy_58 : decode cX7_goesBy 58 = .ok (.if_icmp .ge 137, 3) := by decide +kernel
theorem dX7_goesBy_61 : decode cX7_goesBy 61 = .ok (.aload_n 0, 1) := by decide +kernel
theorem dX7_goesBy_62 : decode cX7_goesBy 62 = .ok (.getfield 49, 3) := by decide +kernel
theorem dX7_goesBy_65 : decode cX7_goesBy 65 = .ok (.iload_n 2, 1) := by decide +kernel
theorem dX7_goesBy_66 : decode cX7_goesBy 66 = .ok (.aload_n 0, 1) := by decide +kernel
theorem dX7_goesBy_67 : decode cX7_goesBy 67 = .ok (.getfield 49, 3) := by decide +kernel
theorem dX7_goesBy_70 : decode cX7_goesBy 70 = .ok (.iload_n 2, 1) := by decide +kernel
theorem dX7_goesBy_71 : decode cX7_goesBy 71 = .ok (.iaload, 1) := by decide +kernel
theorem dX7_goesBy_72 : decode cX7_goesBy 72 = .ok (.iconst 1, 1) := by decide +kernel
theorem dX7_goesBy_73 : decode cX7_goesBy 73 = .ok (.if_icmp .ne 26, 3) := by decide +kernel
theorem dX7_goesBy_76 : decode cX7_goesBy 76 = .ok (.iload_n 1, 1) := by decide +kernel
theorem dX7_goesBy_77 : decode cX7_goesBy 77 = .ok (.aload_n 0, 1) := by decide +kernel
theorem dX7_goesBy_78 : decode cX7_goesBy 78 = .ok (.getfield 22, 3) := by decide +kernel
theorem dX7_goesBy_81 : decode cX7_goesBy 81 = .ok (.iload_n 2, 1) := by decide +kernel
theorem dX7_goesBy_82 : decode cX7_goesBy 82 = .ok (.iaload, 1) := by decide +kernel
theorem dX7_goesBy_83 : decode cX7_goesBy 83 = .ok (.isub, 1) := by decide +kernel
theorem dX7_goesBy_84 : decode cX7_goesBy 84 = .ok (.iconst 1, 1) := by decide +kernel
theorem dX7_goesBy_85 : decode cX7_goesBy 85 = .ok (.iadd, 1) := by decide +kernel
theorem dX7_goesBy_86 : decode cX7_goesBy 86 = .ok (.aload_n 0, 1) := by decide +kernel
theorem dX7_goesBy_87 : decode cX7_goesBy 87 = .ok (.getfield 19, 3) := by decide +kernel
theorem dX7_goesBy_90 : decode cX7_goesBy 90 = .ok (.iload_n 2, 1) := by decide +kernel
theorem dX7_goesBy_91 : decode cX7_goesBy 91 = .ok (.iaload, 1) := by decide +kernel
theorem dX7_goesBy_92 : decode cX7_goesBy 92 = .ok (.if_icmp .ne 7, 3) := by decide +kernel
theorem dX7_goesBy_95 : decode cX7_goesBy 95 = .ok (.iconst 4, 1) := by decide +kernel
theorem dX7_goesBy_96 : decode cX7_goesBy 96 = .ok (.goto 9, 3) := by decide +kernel
theorem dX7_goesBy_99 : decode cX7_goesBy 99 = .ok (.aload_n 0, 1) := by decide +kernel
theorem dX7_goesBy_100 : decode cX7_goesBy 100 = .ok (.getfield 49, 3) := by decide +kernel
theorem dX7_goesBy_103 : decode cX7_goesBy 103 = .ok (.iload_n 2, 1) := by decide +kernel
theorem dX7_goesBy_104 : decode cX7_goesBy 104 = .ok (.iaload, 1) := by decide +kernel
theorem dX7_goesBy_105 : decode cX7_goesBy 105 = .ok (.iastore, 1) := by decide +kernel
theorem dX7_goesBy_106 : decode cX7_goesBy 106 = .ok (.aload_n 0, 1) := by decide +kernel
theorem dX7_goesBy_107 : decode cX7_goesBy 107 = .ok (.getfield 67, 3) := by decide +kernel
theorem dX7_goesBy_110 : decode cX7_goesBy 110 = .ok (.iload_n 1, 1) := by decide +kernel
theorem dX7_goesBy_111 : decode cX7_goesBy 111 = .ok (.dup2, 1) := by decide +kernel
theorem dX7_goesBy_112 : decode cX7_goesBy 112 = .ok (.iaload, 1) := by decide +kernel
theorem dX7_goesBy_113 : decode cX7_goesBy 113 = .ok (.aload_n 0, 1) := by decide +kernel
theorem dX7_goesBy_114 : decode cX7_goesBy 114 = .ok (.getfield 49, 3) := by decide +kernel
theorem dX7_goesBy_117 : decode cX7_goesBy 117 = .ok (.iload_n 2, 1) := by decide +kernel
theorem dX7_goesBy_118 : decode cX7_goesBy 118 = .ok (.iaload, 1) := by decide +kernel
theorem dX7_goesBy_119 : decode cX7_goesBy 119 = .ok (.iconst 2, 1) := by decide +kernel
theorem dX7_goesBy_120 : decode cX7_goesBy 120 = .ok (.if_icmp .ne 15, 3) := by decide +kernel
theorem dX7_goesBy_123 : decode cX7_goesBy 123 = .ok (.aload_n 0, 1) := by decide +kernel
theorem dX7_goesBy_124 : decode cX7_goesBy 124 = .ok (.getfield 55, 3) := by decide +kernel
theorem dX7_goesBy_127 : decode cX7_goesBy 127 = .ok (.iload_n 2, 1) := by decide +kernel
theorem dX7_goesBy_128 : decode cX7_goesBy 128 = .ok (.iaload, 1) := by decide +kernel
theorem dX7_goesBy_129 : decode cX7_goesBy 129 = .ok (.invokestatic 199, 3) := by decide +kernel
theorem dX7_goesBy_132 : decode cX7_goesBy 132 = .ok (.goto 4, 3) := by decide +kernel
theorem dX7_goesBy_135 : decode cX7_goesBy 135 = .ok (.iconst 0, 1) := by decide +kernel
theorem dX7_goesBy_136 : decode cX7_goesBy 136 = .ok (.iadd, 1) := by decide +kernel
theorem dX7_goesBy_137 : decode cX7_goesBy 137 = .ok (.iastore, 1) := by decide +kernel
theorem dX7_goesBy_138 : decode cX7_goesBy 138 = .ok (.aload_n 0, 1) := by decide +kernel
theorem dX7_goesBy_139 : decode cX7_goesBy 139 = .ok (.getfield 64, 3) := by decide +kernel
theorem dX7_goesBy_142 : decode cX7_goesBy 142 = .ok (.iload_n 1, 1) := by decide +kernel
theorem dX7_goesBy_143 : decode cX7_goesBy 143 = .ok (.dup2, 1) := by decide +kernel
theorem dX7_goesBy_144 : decode cX7_goesBy 144 = .ok (.iaload, 1) := by decide +kernel
theorem dX7_goesBy_145 : decode cX7_goesBy 145 = .ok (.aload_n 0, 1) := by decide +kernel
theorem dX7_goesBy_146 : decode cX7_goesBy 146 = .ok (.getfield 49, 3) := by decide +kernel
theorem dX7_goesBy_149 : decode cX7_goesBy 149 = .ok (.iload_n 2, 1) := by decide +kernel
theorem dX7_goesBy_150 : decode cX7_goesBy 150 = .ok (.iaload, 1) := by decide +kernel
theorem dX7_goesBy_151 : decode cX7_goesBy 151 = .ok (.iconst 2, 1) := by decide +kernel
theorem dX7_goesBy_152 : decode cX7_goesBy 152 = .ok (.if_icmp .ne 17, 3) := by decide +kernel
theorem dX7_goesBy_155 : decode cX7_goesBy 155 = .ok (.aload_n 0, 1) := by decide +kernel
theorem dX7_goesBy_156 : decode cX7_goesBy 156 = .ok (.getfield 16, 3) := by decide +kernel
theorem dX7_goesBy_159 : decode cX7_goesBy 159 = .ok (.iload_n 2, 1) := by decide +kernel
theorem dX7_goesBy_160 : decode cX7_goesBy 160 = .ok (.iaload, 1) := by decide +kernel
theorem dX7_goesBy_161 : decode cX7_goesBy 161 = .ok (.iconst 2, 1) := by decide +kernel
theorem dX7_goesBy_162 : decode cX7_goesBy 162 = .ok (.if_icmp .eq 7, 3) := by decide +kernel
theorem dX7_goesBy_165 : decode cX7_goesBy 165 = .ok (.iconst 1, 1) := by decide +kernel
theorem dX7_goesBy_166 : decode cX7_goesBy 166 = .ok (.goto 4, 3) := by decide +kernel
theorem dX7_goesBy_169 : decode cX7_goesBy 169 = .ok (.iconst 0, 1) := by decide +kernel
theorem dX7_goesBy_170 : decode cX7_goesBy 170 = .ok (.iadd, 1) := by decide +kernel
theorem dX7_goesBy_171 : decode cX7_goesBy 171 = .ok (.iastore, 1) := by decide +kernel
theorem dX7_goesBy_172 : decode cX7_goesBy 172 = .ok (.aload_n 0, 1) := by decide +kernel
theorem dX7_goesBy_173 : decode cX7_goesBy 173 = .ok (.getfield 58, 3) := by decide +kernel
theorem dX7_goesBy_176 : decode cX7_goesBy 176 = .ok (.bipush 8, 2) := by decide +kernel
theorem dX7_goesBy_178 : decode cX7_goesBy 178 = .ok (.iload_n 1, 1) := by decide +kernel
theorem dX7_goesBy_179 : decode cX7_goesBy 179 = .ok (.imul, 1) := by decide +kernel
theorem dX7_goesBy_180 : decode cX7_goesBy 180 = .ok (.iload_n 2, 1) := by decide +kernel
theorem dX7_goesBy_181 : decode cX7_goesBy 181 = .ok (.iadd, 1) := by decide +kernel
theorem dX7_goesBy_182 : decode cX7_goesBy 182 = .ok (.aload_n 0, 1) := by decide +kernel
theorem dX7_goesBy_183 : decode cX7_goesBy 183 = .ok (.getfield 49, 3) := by decide +kernel
theorem dX7_goesBy_186 : decode cX7_goesBy 186 = .ok (.iload_n 2, 1) := by decide +kernel
theorem dX7_goesBy_187 : decode cX7_goesBy 187 = .ok (.iaload, 1) := by decide +kernel
theorem dX7_goesBy_188 : decode cX7_goesBy 188 = .ok (.iastore, 1) := by decide +kernel
theorem dX7_goesBy_189 : decode cX7_goesBy 189 = .ok (.iinc 2 1, 3) := by decide +kernel
theorem dX7_goesBy_192 : decode cX7_goesBy 192 = .ok (.goto (-139), 3) := by decide +kernel
theorem dX7_goesBy_195 : decode cX7_goesBy 195 = .ok (.return_, 1) := by decide +kernel
theorem dX7_runs_0 : decode cX7_runs 0 = .ok (.iconst 0, 1) := by decide +kernel
theorem dX7_runs_1 : decode cX7_runs 1 = .ok (.istore_n 1, 1) := by decide +kernel
theorem dX7_runs_2 : decode cX7_runs 2 = .ok (.iload_n 1, 1) := by decide +kernel
theorem dX7_runs_3 : decode cX7_runs 3 = .ok (.aload_n 0, 1) := by decide +kernel
theorem dX7_runs_4 : decode cX7_runs 4 = .ok (.getfield 116, 3) := by decide +kernel
theorem dX7_runs_7 : decode cX7_runs 7 = .ok (.if_icmp .ge 30, 3) := by decide +kernel
theorem dX7_runs_10 : decode cX7_runs 10 = .ok (.aload_n 0, 1) := by decide +kernel
theorem dX7_runs_11 : decode cX7_runs 11 = .ok (.getfield 49, 3) := by decide +kernel
theorem dX7_runs_14 : decode cX7_runs 14 = .ok (.iload_n 1, 1) := by decide +kernel
theorem dX7_runs_15 : decode cX7_runs 15 = .ok (.iconst 0, 1) := by decide +kernel
theorem dX7_runs_16 : decode cX7_runs 16 = .ok (.iastore, 1) := by decide +kernel
theorem dX7_runs_17 : decode cX7_runs 17 = .ok (.aload_n 0, 1) := by decide +kernel
theorem dX7_runs_18 : decode cX7_runs 18 = .ok (.getfield 52, 3) := by decide +kernel
theorem dX7_runs_21 : decode cX7_runs 21 = .ok (.iload_n 1, 1) := by decide +kernel
theorem dX7_runs_22 : decode cX7_runs 22 = .ok (.iconst 0, 1) := by decide +kernel
theorem dX7_runs_23 : decode cX7_runs 23 = .ok (.iastore, 1) := by decide +kernel
theorem dX7_runs_24 : decode cX7_runs 24 = .ok (.aload_n 0, 1) := by decide +kernel
theorem dX7_runs_25 : decode cX7_runs 25 = .ok (.getfield 55, 3) := by decide +kernel
theorem dX7_runs_28 : decode cX7_runs 28 = .ok (.iload_n 1, 1) := by decide +kernel
theorem dX7_runs_29 : decode cX7_runs 29 = .ok (.iconst (-1), 1) := by decide +kernel
theorem dX7_runs_30 : decode cX7_runs 30 = .ok (.iastore, 1) := by decide +kernel
theorem dX7_runs_31 : decode cX7_runs 31 = .ok (.iinc 1 1, 3) := by decide +kernel
theorem dX7_runs_34 : decode cX7_runs 34 = .ok (.goto (-32), 3) := by decide +kernel
theorem dX7_runs_37 : decode cX7_runs 37 = .ok (.aload_n 0, 1) := by decide +kernel
theorem dX7_runs_38 : decode cX7_runs 38 = .ok (.iconst (-1), 1) := by decide +kernel
theorem dX7_runs_39 : decode cX7_runs 39 = .ok (.putfield 182, 3) := by decide +kernel
theorem dX7_runs_42 : decode cX7_runs 42 = .ok (.aload_n 0, 1) := by decide +kernel
theorem dX7_runs_43 : decode cX7_runs 43 = .ok (.iconst (-1), 1) := by decide +kernel
theorem dX7_runs_44 : decode cX7_runs 44 = .ok (.putfield 185, 3) := by decide +kernel
theorem dX7_runs_47 : decode cX7_runs 47 = .ok (.iconst 0, 1) := by decide +kernel
theorem dX7_runs_48 : decode cX7_runs 48 = .ok (.istore_n 1, 1) := by decide +kernel
theorem dX7_runs_49 : decode cX7_runs 49 = .ok (.iload_n 1, 1) := by decide +kernel
theorem dX7_runs_50 : decode cX7_runs 50 = .ok (.bipush 24, 2) := by decide +kernel
theorem dX7_runs_52 : decode cX7_runs 52 = .ok (.if_icmp .ge 14, 3) := by decide +kernel
theorem dX7_runs_55 : decode cX7_runs 55 = .ok (.aload_n 0, 1) := by decide +kernel
theorem dX7_runs_56 : decode cX7_runs 56 = .ok (.iload_n 1, 1) := by decide +kernel
theorem dX7_runs_57 : decode cX7_runs 57 = .ok (.invokevirtual 202, 3) := by decide +kernel
theorem dX7_runs_60 : decode cX7_runs 60 = .ok (.iinc 1 1, 3) := by decide +kernel
theorem dX7_runs_63 : decode cX7_runs 63 = .ok (.goto (-14), 3) := by decide +kernel
theorem dX7_runs_66 : decode cX7_runs 66 = .ok (.return_, 1) := by decide +kernel
theorem dX7_runsTold_0 : decode cX7_runsTold 0 = .ok (.aload_n 0, 1) := by decide +kernel
theorem dX7_runsTold_1 : decode cX7_runsTold 1 = .ok (.invokevirtual 205, 3) := by decide +kernel
theorem dX7_runsTold_4 : decode cX7_runsTold 4 = .ok (.aload_n 0, 1) := by decide +kernel
theorem dX7_runsTold_5 : decode cX7_runsTold 5 = .ok (.invokevirtual 208, 3) := by decide +kernel
theorem dX7_runsTold_8 : decode cX7_runsTold 8 = .ok (.return_, 1) := by decide +kernel
theorem dX7_standsOf_0 : decode cX7_standsOf 0 = .ok (.aload_n 0, 1) := by decide +kernel
theorem dX7_standsOf_1 : decode cX7_standsOf 1 = .ok (.invokevirtual 211, 3) := by decide +kernel
theorem dX7_standsOf_4 : decode cX7_standsOf 4 = .ok (.aload_n 0, 1) := by decide +kernel
theorem dX7_standsOf_5 : decode cX7_standsOf 5 = .ok (.getfield 58, 3) := by decide +kernel
theorem dX7_standsOf_8 : decode cX7_standsOf 8 = .ok (.bipush 8, 2) := by decide +kernel
theorem dX7_standsOf_10 : decode cX7_standsOf 10 = .ok (.iload_n 1, 1) := by decide +kernel
theorem dX7_standsOf_11 : decode cX7_standsOf 11 = .ok (.imul, 1) := by decide +kernel
theorem dX7_standsOf_12 : decode cX7_standsOf 12 = .ok (.iload_n 2, 1) := by decide +kernel
theorem dX7_standsOf_13 : decode cX7_standsOf 13 = .ok (.iadd, 1) := by decide +kernel
theorem dX7_standsOf_14 : decode cX7_standsOf 14 = .ok (.iaload, 1) := by decide +kernel
theorem dX7_standsOf_15 : decode cX7_standsOf 15 = .ok (.ireturn, 1) := by decide +kernel
theorem dX7_stands_0 : decode cX7_stands 0 = .ok (.iload_n 1, 1) := by decide +kernel
theorem dX7_stands_1 : decode cX7_stands 1 = .ok (.invokestatic 150, 3) := by decide +kernel
theorem dX7_stands_4 : decode cX7_stands 4 = .ok (.ifCond .eq 20, 3) := by decide +kernel
theorem dX7_stands_7 : decode cX7_stands 7 = .ok (.aload_n 0, 1) := by decide +kernel
theorem dX7_stands_8 : decode cX7_stands 8 = .ok (.iload_n 2, 1) := by decide +kernel
theorem dX7_stands_9 : decode cX7_stands 9 = .ok (.invokevirtual 138, 3) := by decide +kernel
theorem dX7_stands_12 : decode cX7_stands 12 = .ok (.ifCond .eq 12, 3) := by decide +kernel
theorem dX7_stands_15 : decode cX7_stands 15 = .ok (.aload_n 0, 1) := by decide +kernel
theorem dX7_stands_16 : decode cX7_stands 16 = .ok (.iload_n 1, 1) := by decide +kernel
theorem dX7_stands_17 : decode cX7_stands 17 = .ok (.iload_n 2, 1) := by decide +kernel
theorem dX7_stands_18 : decode cX7_stands 18 = .ok (.invokevirtual 214, 3) := by decide +kernel
theorem dX7_stands_21 : decode cX7_stands 21 = .ok (.goto 5, 3) := by decide +kernel
theorem dX7_stands_24 : decode cX7_stands 24 = .ok (.bipush (-2), 2) := by decide +kernel
theorem dX7_stands_26 : decode cX7_stands 26 = .ok (.ireturn, 1) := by decide +kernel
theorem dX7_nameOf_0 : decode cX7_nameOf 0 = .ok (.aload_n 0, 1) := by decide +kernel
theorem dX7_nameOf_1 : decode cX7_nameOf 1 = .ok (.invokevirtual 211, 3) := by decide +kernel
theorem dX7_nameOf_4 : decode cX7_nameOf 4 = .ok (.aload_n 0, 1) := by decide +kernel
theorem dX7_nameOf_5 : decode cX7_nameOf 5 = .ok (.getfield 55, 3) := by decide +kernel
theorem dX7_nameOf_8 : decode cX7_nameOf 8 = .ok (.iload_n 1, 1) := by decide +kernel
theorem dX7_nameOf_9 : decode cX7_nameOf 9 = .ok (.iaload, 1) := by decide +kernel
theorem dX7_nameOf_10 : decode cX7_nameOf 10 = .ok (.ireturn, 1) := by decide +kernel
theorem dX7_name_0 : decode cX7_name 0 = .ok (.aload_n 0, 1) := by decide +kernel
theorem dX7_name_1 : decode cX7_name 1 = .ok (.iload_n 1, 1) := by decide +kernel
theorem dX7_name_2 : decode cX7_name 2 = .ok (.invokevirtual 138, 3) := by decide +kernel
theorem dX7_name_5 : decode cX7_name 5 = .ok (.ifCond .eq 11, 3) := by decide +kernel
theorem dX7_name_8 : decode cX7_name 8 = .ok (.aload_n 0, 1) := by decide +kernel
theorem dX7_name_9 : decode cX7_name 9 = .ok (.iload_n 1, 1) := by decide +kernel
theorem dX7_name_10 : decode cX7_name 10 = .ok (.invokevirtual 217, 3) := by decide +kernel
theorem dX7_name_13 : decode cX7_name 13 = .ok (.goto 5, 3) := by decide +kernel
theorem dX7_name_16 : decode cX7_name 16 = .ok (.bipush (-2), 2) := by decide +kernel
theorem dX7_name_18 : decode cX7_name 18 = .ok (.ireturn, 1) := by decide +kernel
theorem dX7_doorOf_0 : decode cX7_doorOf 0 = .ok (.aload_n 0, 1) := by decide +kernel
theorem dX7_doorOf_1 : decode cX7_doorOf 1 = .ok (.invokevirtual 211, 3) := by decide +kernel
theorem dX7_doorOf_4 : decode cX7_doorOf 4 = .ok (.iconst 0, 1) := by decide +kernel
theorem dX7_doorOf_5 : decode cX7_doorOf 5 = .ok (.istore_n 3, 1) := by decide +kernel
theorem dX7_doorOf_6 : decode cX7_doorOf 6 = .ok (.iconst 0, 1) := by decide +kernel
theorem dX7_doorOf_7 : decode cX7_doorOf 7 = .ok (.istore 4, 2) := by decide +kernel
theorem dX7_doorOf_9 : decode cX7_doorOf 9 = .ok (.iload 4, 2) := by decide +kernel
theorem dX7_doorOf_11 : decode cX7_doorOf 11 = .ok (.aload_n 0, 1) := by decide +kernel
theorem dX7_doorOf_12 : decode cX7_doorOf 12 = .ok (.getfield 116, 3) := by decide +kernel
theorem dX7_doorOf_15 : decode cX7_doorOf 15 = .ok (.if_icmp .ge 36, 3) := by decide +kernel
theorem dX7_doorOf_18 : decode cX7_doorOf 18 = .ok (.iload_n 3, 1) := by decide +kernel
theorem dX7_doorOf_19 : decode cX7_doorOf 19 = .ok (.aload_n 0, 1) := by decide +kernel
theorem dX7_doorOf_20 : decode cX7_doorOf 20 = .ok (.getfield 58, 3) := by decide +kernel
theorem dX7_doorOf_23 : decode cX7_doorOf 23 = .ok (.bipush 8, 2) := by decide +kernel
theorem dX7_doorOf_25 : decode cX7_doorOf 25 = .ok (.iload_n 1, 1) := by decide +kernel
theorem dX7_doorOf_26 : decode cX7_doorOf 26 = .ok (.imul, 1) := by decide +kernel
theorem dX7_doorOf_27 : decode cX7_doorOf 27 = .ok (.iload 4, 2) := by decide +kernel
theorem dX7_doorOf_29 : decode cX7_doorOf 29 = .ok (.iadd, 1) := by decide +kernel
theorem dX7_doorOf_30 : decode cX7_doorOf 30 = .ok (.iaload, 1) := by decide +kernel
theorem dX7_doorOf_31 : decode cX7_doorOf 31 = .ok (.iconst 1, 1) := by decide +kernel
theorem dX7_doorOf_32 : decode cX7_doorOf 32 = .ok (.if_icmp .ne 10, 3) := by decide +kernel
theorem dX7_doorOf_35 : decode cX7_doorOf 35 = .ok (.iconst 1, 1) := by decide +kernel
theorem dX7_doorOf_36 : decode cX7_doorOf 36 = .ok (.iload 4, 2) := by decide +kernel
theorem dX7_doorOf_38 : decode cX7_doorOf 38 = .ok (.ishl, 1) := by decide +kernel
theorem dX7_doorOf_39 : decode cX7_doorOf 39 = .ok (.goto 4, 3) := by decide +kernel
theorem dX7_doorOf_42 : decode cX7_doorOf 42 = .ok (.iconst 0, 1) := by decide +kernel
theorem dX7_doorOf_43 : decode cX7_doorOf 43 = .ok (.ior, 1) := by decide +kernel
theorem dX7_doorOf_44 : decode cX7_doorOf 44 = .ok (.istore_n 3, 1) := by decide +kernel
theorem dX7_doorOf_45 : decode cX7_doorOf 45 = .ok (.iinc 4 1, 3) := by decide +kernel
theorem dX7_doorOf_48 : decode cX7_doorOf 48 = .ok (.goto (-39), 3) := by decide +kernel
theorem dX7_doorOf_51 : decode cX7_doorOf 51 = .ok (.iload_n 2, 1) := by decide +kernel
theorem dX7_doorOf_52 : decode cX7_doorOf 52 = .ok (.ifCond .ne 12, 3) := by decide +kernel
theorem dX7_doorOf_55 : decode cX7_doorOf 55 = .ok (.aload_n 0, 1) := by decide +kernel
theorem dX7_doorOf_56 : decode cX7_doorOf 56 = .ok (.getfield 61, 3) := by decide +kernel
theorem dX7_doorOf_59 : decode cX7_doorOf 59 = .ok (.iload_n 1, 1) := by decide +kernel
theorem dX7_doorOf_60 : decode cX7_doorOf 60 = .ok (.iaload, 1) := by decide +kernel
theorem dX7_doorOf_61 : decode cX7_doorOf 61 = .ok (.goto 18, 3) := by decide +kernel
theorem dX7_doorOf_64 : decode cX7_doorOf 64 = .ok (.iload_n 2, 1) := by decide +kernel
theorem dX7_doorOf_65 : decode cX7_doorOf 65 = .ok (.iconst 1, 1) := by decide +kernel
theorem dX7_doorOf_66 : decode cX7_doorOf 66 = .ok (.if_icmp .ne 12, 3) := by decide +kernel
theorem dX7_doorOf_69 : decode cX7_doorOf 69 = .ok (.aload_n 0, 1) := by decide +kernel
theorem dX7_doorOf_70 : decode cX7_doorOf 70 = .ok (.getfield 64, 3) := by decide +kernel
theorem dX7_doorOf_73 : decode cX7_doorOf 73 = .ok (.iload_n 1, 1) := by decide +kernel
theorem dX7_doorOf_74 : decode cX7_doorOf 74 = .ok (.iaload, 1) := by decide +kernel
theorem dX7_doorOf_75 : decode cX7_doorOf 75 = .ok (.goto 4, 3) := by decide +kernel
theorem dX7_doorOf_78 : decode cX7_doorOf 78 = .ok (.iload_n 3, 1) := by decide +kernel
theorem dX7_doorOf_79 : decode cX7_doorOf 79 = .ok (.ireturn, 1) := by decide +kernel
theorem dX7_door_0 : decode cX7_door 0 = .ok (.iload_n 1, 1) := by decide +kernel
theorem dX7_door_1 : decode cX7_door 1 = .ok (.invokestatic 150, 3) := by decide +kernel
theorem dX7_door_4 : decode cX7_door 4 = .ok (.ifCond .eq 21, 3) := by decide +kernel
theorem dX7_door_7 : decode cX7_door 7 = .ok (.iload_n 2, 1) := by decide +kernel
theorem dX7_door_8 : decode cX7_door 8 = .ok (.iconst 0, 1) := by decide +kernel
theorem dX7_door_9 : decode cX7_door 9 = .ok (.iconst 2, 1) := by decide +kernel
theorem dX7_door_10 : decode cX7_door 10 = .ok (.invokestatic 100, 3) := by decide +kernel
theorem dX7_door_13 : decode cX7_door 13 = .ok (.ifCond .eq 12, 3) := by decide +kernel
theorem dX7_door_16 : decode cX7_door 16 = .ok (.aload_n 0, 1) := by decide +kernel
theorem dX7_door_17 : decode cX7_door 17 = .ok (.iload_n 1, 1) := by decide +kernel
theorem dX7_door_18 : decode cX7_door 18 = .ok (.iload_n 2, 1) := by decide +kernel
theorem dX7_door_19 : decode cX7_door 19 = .ok (.invokevirtual 220, 3) := by decide +kernel
theorem dX7_door_22 : decode cX7_door 22 = .ok (.goto 5, 3) := by decide +kernel
theorem dX7_door_25 : decode cX7_door 25 = .ok (.bipush (-2), 2) := by decide +kernel
theorem dX7_door_27 : decode cX7_door 27 = .ok (.ireturn, 1) := by decide +kernel
theorem dX7_warmthOf_0 : decode cX7_warmthOf 0 = .ok (.aload_n 0, 1) := by decide +kernel
theorem dX7_warmthOf_1 : decode cX7_warmthOf 1 = .ok (.invokevirtual 211, 3) := by decide +kernel
theorem dX7_warmthOf_4 : decode cX7_warmthOf 4 = .ok (.aload_n 0, 1) := by decide +kernel
theorem dX7_warmthOf_5 : decode cX7_warmthOf 5 = .ok (.getfield 67, 3) := by decide +kernel
theorem dX7_warmthOf_8 : decode cX7_warmthOf 8 = .ok (.iload_n 1, 1) := by decide +kernel
theorem dX7_warmthOf_9 : decode cX7_warmthOf 9 = .ok (.iaload, 1) := by decide +kernel
theorem dX7_warmthOf_10 : decode cX7_warmthOf 10 = .ok (.ireturn, 1) := by decide +kernel
theorem dX7_warmth_0 : decode cX7_warmth 0 = .ok (.iload_n 1, 1) := by decide +kernel
theorem dX7_warmth_1 : decode cX7_warmth 1 = .ok (.invokestatic 150, 3) := by decide +kernel
theorem dX7_warmth_4 : decode cX7_warmth 4 = .ok (.ifCond .eq 11, 3) := by decide +kernel
theorem dX7_warmth_7 : decode cX7_warmth 7 = .ok (.aload_n 0, 1) := by decide +kernel
theorem dX7_warmth_8 : decode cX7_warmth 8 = .ok (.iload_n 1, 1) := by decide +kernel
theorem dX7_warmth_9 : decode cX7_warmth 9 = .ok (.invokevirtual 223, 3) := by decide +kernel
theorem dX7_warmth_12 : decode cX7_warmth 12 = .ok (.goto 5, 3) := by decide +kernel
theorem dX7_warmth_15 : decode cX7_warmth 15 = .ok (.ldc 226, 2) := by decide +kernel
theorem dX7_warmth_17 : decode cX7_warmth 17 = .ok (.ireturn, 1) := by decide +kernel
theorem dX7_coldestOf_0 : decode cX7_coldestOf 0 = .ok (.aload_n 0, 1) := by decide +kernel
theorem dX7_coldestOf_1 : decode cX7_coldestOf 1 = .ok (.invokevirtual 211, 3) := by decide +kernel
theorem dX7_coldestOf_4 : decode cX7_coldestOf 4 = .ok (.iconst 0, 1) := by decide +kernel
theorem dX7_coldestOf_5 : decode cX7_coldestOf 5 = .ok (.istore_n 1, 1) := by decide +kernel
theorem dX7_coldestOf_6 : decode cX7_coldestOf 6 = .ok (.iconst 1, 1) := by decide +kernel
theorem dX7_coldestOf_7 : decode cX7_coldestOf 7 = .ok (.istore_n 2, 1) := by decide +kernel
theorem dX7_coldestOf_8 : decode cX7_coldestOf 8 = .ok (.iload_n 2, 1) := by decide +kernel
theorem dX7_coldestOf_9 : decode cX7_coldestOf 9 = .ok (.bipush 24, 2) := by decide +kernel
theorem dX7_coldestOf_11 : decode cX7_coldestOf 11 = .ok (.if_icmp .ge 30, 3) := by decide +kernel
theorem dX7_coldestOf_14 : decode cX7_coldestOf 14 = .ok (.aload_n 0, 1) := by decide +kernel
theorem dX7_coldestOf_15 : decode cX7_coldestOf 15 = .ok (.getfield 67, 3) := by decide +kernel
theorem dX7_coldestOf_18 : decode cX7_coldestOf 18 = .ok (.iload_n 2, 1) := by decide +kernel
theorem dX7_coldestOf_19 : decode cX7_coldestOf 19 = .ok (.iaload, 1) := by decide +kernel
theorem dX7_coldestOf_20 : decode cX7_coldestOf 20 = .ok (.aload_n 0, 1) := by decide +kernel
theorem dX7_coldestOf_21 : decode cX7_coldestOf 21 = .ok (.getfield 67, 3) := by decide +kernel
theorem dX7_coldestOf_24 : decode cX7_coldestOf 24 = .ok (.iload_n 1, 1) := by decide +kernel
theorem dX7_coldestOf_25 : decode cX7_coldestOf 25 = .ok (.iaload, 1) := by decide +kernel
theorem dX7_coldestOf_26 : decode cX7_coldestOf 26 = .ok (.if_icmp .ge 7, 3) := by decide +kernel
theorem dX7_coldestOf_29 : decode cX7_coldestOf 29 = .ok (.iload_n 2, 1) := by decide +kernel
theorem dX7_coldestOf_30 : decode cX7_coldestOf 30 = .ok (.goto 4, 3) := by decide +kernel
theorem dX7_coldestOf_33 : decode cX7_coldestOf 33 = .ok (.iload_n 1, 1) := by decide +kernel
theorem dX7_coldestOf_34 : decode cX7_coldestOf 34 = .ok (.istore_n 1, 1) := by decide +kernel
theorem dX7_coldestOf_35 : decode cX7_coldestOf 35 = .ok (.iinc 2 1, 3) := by decide +kernel
theorem dX7_coldestOf_38 : decode cX7_coldestOf 38 = .ok (.goto (-30), 3) := by decide +kernel
theorem dX7_coldestOf_41 : decode cX7_coldestOf 41 = .ok (.iload_n 1, 1) := by decide +kernel
theorem dX7_coldestOf_42 : decode cX7_coldestOf 42 = .ok (.ireturn, 1) := by decide +kernel
theorem dX7_coldest_0 : decode cX7_coldest 0 = .ok (.aload_n 0, 1) := by decide +kernel
theorem dX7_coldest_1 : decode cX7_coldest 1 = .ok (.invokevirtual 227, 3) := by decide +kernel
theorem dX7_coldest_4 : decode cX7_coldest 4 = .ok (.ireturn, 1) := by decide +kernel
theorem dX7_firstOf_0 : decode cX7_firstOf 0 = .ok (.aload_n 0, 1) := by decide +kernel
theorem dX7_firstOf_1 : decode cX7_firstOf 1 = .ok (.invokevirtual 211, 3) := by decide +kernel
theorem dX7_firstOf_4 : decode cX7_firstOf 4 = .ok (.iload_n 1, 1) := by decide +kernel
theorem dX7_firstOf_5 : decode cX7_firstOf 5 = .ok (.ifCond .ne 10, 3) := by decide +kernel
theorem dX7_firstOf_8 : decode cX7_firstOf 8 = .ok (.aload_n 0, 1) := by decide +kernel
theorem dX7_firstOf_9 : decode cX7_firstOf 9 = .ok (.getfield 182, 3) := by decide +kernel
theorem dX7_firstOf_12 : decode cX7_firstOf 12 = .ok (.goto 7, 3) := by decide +kernel
theorem dX7_firstOf_15 : decode cX7_firstOf 15 = .ok (.aload_n 0, 1) := by decide +kernel
theorem dX7_firstOf_16 : decode cX7_firstOf 16 = .ok (.getfield 185, 3) := by decide +kernel
theorem dX7_firstOf_19 : decode cX7_firstOf 19 = .ok (.ireturn, 1) := by decide +kernel
theorem dX7_first_0 : decode cX7_first 0 = .ok (.iload_n 1, 1) := by decide +kernel
theorem dX7_first_1 : decode cX7_first 1 = .ok (.invokestatic 231, 3) := by decide +kernel
theorem dX7_first_4 : decode cX7_first 4 = .ok (.ifCond .eq 11, 3) := by decide +kernel
theorem dX7_first_7 : decode cX7_first 7 = .ok (.aload_n 0, 1) := by decide +kernel
theorem dX7_first_8 : decode cX7_first 8 = .ok (.iload_n 1, 1) := by decide +kernel
theorem dX7_first_9 : decode cX7_first 9 = .ok (.invokevirtual 234, 3) := by decide +kernel
theorem dX7_first_12 : decode cX7_first 12 = .ok (.goto 5, 3) := by decide +kernel
theorem dX7_first_15 : decode cX7_first 15 = .ok (.bipush (-2), 2) := by decide +kernel
theorem dX7_first_17 : decode cX7_first 17 = .ok (.ireturn, 1) := by decide +kernel
theorem dX7_sentNow_0 : decode cX7_sentNow 0 = .ok (.iconst 0, 1) := by decide +kernel
theorem dX7_sentNow_1 : decode cX7_sentNow 1 = .ok (.istore_n 1, 1) := by decide +kernel
theorem dX7_sentNow_2 : decode cX7_sentNow 2 = .ok (.iconst 0, 1) := by decide +kernel
theorem dX7_sentNow_3 : decode cX7_sentNow 3 = .ok (.istore_n 2, 1) := by decide +kernel
theorem dX7_sentNow_4 : decode cX7_sentNow 4 = .ok (.iload_n 2, 1) := by decide +kernel
theorem dX7_sentNow_5 : decode cX7_sentNow 5 = .ok (.aload_n 0, 1) := by decide +kernel
theorem dX7_sentNow_6 : decode cX7_sentNow 6 = .ok (.getfield 116, 3) := by decide +kernel
theorem dX7_sentNow_9 : decode cX7_sentNow 9 = .ok (.if_icmp .ge 29, 3) := by decide +kernel
theorem dX7_sentNow_12 : decode cX7_sentNow 12 = .ok (.iload_n 1, 1) := by decide +kernel
theorem dX7_sentNow_13 : decode cX7_sentNow 13 = .ok (.aload_n 0, 1) := by decide +kernel
theorem dX7_sentNow_14 : decode cX7_sentNow 14 = .ok (.getfield 49, 3) := by decide +kernel
theorem dX7_sentNow_17 : decode cX7_sentNow 17 = .ok (.iload_n 2, 1) := by decide +kernel
theorem dX7_sentNow_18 : decode cX7_sentNow 18 = .ok (.iaload, 1) := by decide +kernel
theorem dX7_sentNow_19 : decode cX7_sentNow 19 = .ok (.iconst 4, 1) := by decide +kernel
theorem dX7_sentNow_20 : decode cX7_sentNow 20 = .ok (.if_icmp .ne 9, 3) := by decide +kernel
theorem dX7_sentNow_23 : decode cX7_sentNow 23 = .ok (.iconst 1, 1) := by decide +kernel
theorem dX7_sentNow_24 : decode cX7_sentNow 24 = .ok (.iload_n 2, 1) := by decide +kernel
theorem dX7_sentNow_25 : decode cX7_sentNow 25 = .ok (.ishl, 1) := by decide +kernel
theorem dX7_sentNow_26 : decode cX7_sentNow 26 = .ok (.goto 4, 3) := by decide +kernel
theorem dX7_sentNow_29 : decode cX7_sentNow 29 = .ok (.iconst 0, 1) := by decide +kernel
theorem dX7_sentNow_30 : decode cX7_sentNow 30 = .ok (.ior, 1) := by decide +kernel
theorem dX7_sentNow_31 : decode cX7_sentNow 31 = .ok (.istore_n 1, 1) := by decide +kernel
theorem dX7_sentNow_32 : decode cX7_sentNow 32 = .ok (.iinc 2 1, 3) := by decide +kernel
theorem dX7_sentNow_35 : decode cX7_sentNow 35 = .ok (.goto (-31), 3) := by decide +kernel
theorem dX7_sentNow_38 : decode cX7_sentNow 38 = .ok (.iload_n 1, 1) := by decide +kernel
theorem dX7_sentNow_39 : decode cX7_sentNow 39 = .ok (.ireturn, 1) := by decide +kernel
theorem dX7_sentOf_0 : decode cX7_sentOf 0 = .ok (.aload_n 0, 1) := by decide +kernel
theorem dX7_sentOf_1 : decode cX7_sentOf 1 = .ok (.invokevirtual 211, 3) := by decide +kernel
theorem dX7_sentOf_4 : decode cX7_sentOf 4 = .ok (.aload_n 0, 1) := by decide +kernel
theorem dX7_sentOf_5 : decode cX7_sentOf 5 = .ok (.invokevirtual 237, 3) := by decide +kernel
theorem dX7_sentOf_8 : decode cX7_sentOf 8 = .ok (.ireturn, 1) := by decide +kernel
theorem dX7_sent_0 : decode cX7_sent 0 = .ok (.aload_n 0, 1) := by decide +kernel
theorem dX7_sent_1 : decode cX7_sent 1 = .ok (.invokevirtual 240, 3) := by decide +kernel
theorem dX7_sent_4 : decode cX7_sent 4 = .ok (.ireturn, 1) := by decide +kernel
theorem dX7_wrongOf_0 : decode cX7_wrongOf 0 = .ok (.aload_n 0, 1) := by decide +kernel
theorem dX7_wrongOf_1 : decode cX7_wrongOf 1 = .ok (.invokevirtual 211, 3) := by decide +kernel
theorem dX7_wrongOf_4 : decode cX7_wrongOf 4 = .ok (.iconst 0, 1) := by decide +kernel
theorem dX7_wrongOf_5 : decode cX7_wrongOf 5 = .ok (.istore_n 1, 1) := by decide +kernel
theorem dX7_wrongOf_6 : decode cX7_wrongOf 6 = .ok (.iconst 0, 1) := by decide +kernel
theorem dX7_wrongOf_7 : decode cX7_wrongOf 7 = .ok (.istore_n 2, 1) := by decide +kernel
theorem dX7_wrongOf_8 : decode cX7_wrongOf 8 = .ok (.iload_n 2, 1) := by decide +kernel
theorem dX7_wrongOf_9 : decode cX7_wrongOf 9 = .ok (.aload_n 0, 1) := by decide +kernel
theorem dX7_wrongOf_10 : decode cX7_wrongOf 10 = .ok (.getfield 116, 3) := by decide +kernel
theorem dX7_wrongOf_13 : decode cX7_wrongOf 13 = .ok (.if_icmp .ge 44, 3) := by decide +kernel
theorem dX7_wrongOf_16 : decode cX7_wrongOf 16 = .ok (.iload_n 1, 1) := by decide +kernel
theorem dX7_wrongOf_17 : decode cX7_wrongOf 17 = .ok (.aload_n 0, 1) := by decide +kernel
theorem dX7_wrongOf_18 : decode cX7_wrongOf 18 = .ok (.getfield 55, 3) := by decide +kernel
theorem dX7_wrongOf_21 : decode cX7_wrongOf 21 = .ok (.iload_n 2, 1) := by decide +kernel
theorem dX7_wrongOf_22 : decode cX7_wrongOf 22 = .ok (.iaload, 1) := by decide +kernel
theorem dX7_wrongOf_23 : decode cX7_wrongOf 23 = .ok (.iconst (-1), 1) := by decide +kernel
theorem dX7_wrongOf_24 : decode cX7_wrongOf 24 = .ok (.if_icmp .eq 24, 3) := by decide +kernel
theorem dX7_wrongOf_27 : decode cX7_wrongOf 27 = .ok (.aload_n 0, 1) := by decide +kernel
theorem dX7_wrongOf_28 : decode cX7_wrongOf 28 = .ok (.getfield 55, 3) := by decide +kernel
theorem dX7_wrongOf_31 : decode cX7_wrongOf 31 = .ok (.iload_n 2, 1) := by decide +kernel
theorem dX7_wrongOf_32 : decode cX7_wrongOf 32 = .ok (.iaload, 1) := by decide +kernel
theorem dX7_wrongOf_33 : decode cX7_wrongOf 33 = .ok (.aload_n 0, 1) := by decide +kernel
theorem dX7_wrongOf_34 : decode cX7_wrongOf 34 = .ok (.getfield 16, 3) := by decide +kernel
theorem dX7_wrongOf_37 : decode cX7_wrongOf 37 = .ok (.iload_n 2, 1) := by decide +kernel
theorem dX7_wrongOf_38 : decode cX7_wrongOf 38 = .ok (.iaload, 1) := by decide +kernel
theorem dX7_wrongOf_39 : decode cX7_wrongOf 39 = .ok (.if_icmp .eq 9, 3) := by decide +kernel
theorem dX7_wrongOf_42 : decode cX7_wrongOf 42 = .ok (.iconst 1, 1) := by decide +kernel
theorem dX7_wrongOf_43 : decode cX7_wrongOf 43 = .ok (.iload_n 2, 1) := by decide +kernel
theorem dX7_wrongOf_44 : decode cX7_wrongOf 44 = .ok (.ishl, 1) := by decide +kernel
theorem dX7_wrongOf_45 : decode cX7_wrongOf 45 = .ok (.goto 4, 3) := by decide +kernel
theorem dX7_wrongOf_48 : decode cX7_wrongOf 48 = .ok (.iconst 0, 1) := by decide +kernel
theorem dX7_wrongOf_49 : decode cX7_wrongOf 49 = .ok (.ior, 1) := by decide +kernel
theorem dX7_wrongOf_50 : decode cX7_wrongOf 50 = .ok (.istore_n 1, 1) := by decide +kernel
theorem dX7_wrongOf_51 : decode cX7_wrongOf 51 = .ok (.iinc 2 1, 3) := by decide +kernel
theorem dX7_wrongOf_54 : decode cX7_wrongOf 54 = .ok (.goto (-46), 3) := by decide +kernel
theorem dX7_wrongOf_57 : decode cX7_wrongOf 57 = .ok (.iload_n 1, 1) := by decide +kernel
theorem dX7_wrongOf_58 : decode cX7_wrongOf 58 = .ok (.ireturn, 1) := by decide +kernel
theorem dX7_wrong_0 : decode cX7_wrong 0 = .ok (.aload_n 0, 1) := by decide +kernel
theorem dX7_wrong_1 : decode cX7_wrong 1 = .ok (.invokevirtual 243, 3) := by decide +kernel
theorem dX7_wrong_4 : decode cX7_wrong 4 = .ok (.ireturn, 1) := by decide +kernel
theorem dX7_sumNow_0 : decode cX7_sumNow 0 = .ok (.iconst 0, 1) := by decide +kernel
theorem dX7_sumNow_1 : decode cX7_sumNow 1 = .ok (.istore_n 1, 1) := by decide +kernel
theorem dX7_sumNow_2 : decode cX7_sumNow 2 = .ok (.iconst 0, 1) := by decide +kernel
theorem dX7_sumNow_3 : decode cX7_sumNow 3 = .ok (.istore_n 2, 1) := by decide +kernel
theorem dX7_sumNow_4 : decode cX7_sumNow 4 = .ok (.iload_n 2, 1) := by decide +kernel
theorem dX7_sumNow_5 : decode cX7_sumNow 5 = .ok (.bipush 24, 2) := by decide +kernel
theorem dX7_sumNow_7 : decode cX7_sumNow 7 = .ok (.if_icmp .ge 18, 3) := by decide +kernel
theorem dX7_sumNow_10 : decode cX7_sumNow 10 = .ok (.iload_n 1, 1) := by decide +kernel
theorem dX7_sumNow_11 : decode cX7_sumNow 11 = .ok (.aload_n 0, 1) := by decide +kernel
theorem dX7_sumNow_12 : decode cX7_sumNow 12 = .ok (.getfield 67, 3) := by decide +kernel
theorem dX7_sumNow_15 : decode cX7_sumNow 15 = .ok (.iload_n 2, 1) := by decide +kernel
theorem dX7_sumNow_16 : decode cX7_sumNow 16 = .ok (.iaload, 1) := by decide +kernel
theorem dX7_sumNow_17 : decode cX7_sumNow 17 = .ok (.iadd, 1) := by decide +kernel
theorem dX7_sumNow_18 : decode cX7_sumNow 18 = .ok (.istore_n 1, 1) := by decide +kernel
theorem dX7_sumNow_19 : decode cX7_sumNow 19 = .ok (.iinc 2 1, 3) := by decide +kernel
theorem dX7_sumNow_22 : decode cX7_sumNow 22 = .ok (.goto (-18), 3) := by decide +kernel
theorem dX7_sumNow_25 : decode cX7_sumNow 25 = .ok (.iload_n 1, 1) := by decide +kernel
theorem dX7_sumNow_26 : decode cX7_sumNow 26 = .ok (.ireturn, 1) := by decide +kernel
theorem dX7_sumOf_0 : decode cX7_sumOf 0 = .ok (.aload_n 0, 1) := by decide +kernel
theorem dX7_sumOf_1 : decode cX7_sumOf 1 = .ok (.invokevirtual 211, 3) := by decide +kernel
theorem dX7_sumOf_4 : decode cX7_sumOf 4 = .ok (.aload_n 0, 1) := by decide +kernel
theorem dX7_sumOf_5 : decode cX7_sumOf 5 = .ok (.invokevirtual 246, 3) := by decide +kernel
theorem dX7_sumOf_8 : decode cX7_sumOf 8 = .ok (.ireturn, 1) := by decide +kernel
theorem dX7_sum_0 : decode cX7_sum 0 = .ok (.aload_n 0, 1) := by decide +kernel
theorem dX7_sum_1 : decode cX7_sum 1 = .ok (.invokevirtual 249, 3) := by decide +kernel
theorem dX7_sum_4 : decode cX7_sum 4 = .ok (.ireturn, 1) := by decide +kernel
theorem dX7_insNow_0 : decode cX7_insNow 0 = .ok (.iconst 0, 1) := by decide +kernel
theorem dX7_insNow_1 : decode cX7_insNow 1 = .ok (.istore_n 1, 1) := by decide +kernel
theorem dX7_insNow_2 : decode cX7_insNow 2 = .ok (.iconst 0, 1) := by decide +kernel
theorem dX7_insNow_3 : decode cX7_insNow 3 = .ok (.istore_n 2, 1) := by decide +kernel
theorem dX7_insNow_4 : decode cX7_insNow 4 = .ok (.iload_n 2, 1) := by decide +kernel
theorem dX7_insNow_5 : decode cX7_insNow 5 = .ok (.aload_n 0, 1) := by decide +kernel
theorem dX7_insNow_6 : decode cX7_insNow 6 = .ok (.getfield 116, 3) := by decide +kernel
theorem dX7_insNow_9 : decode cX7_insNow 9 = .ok (.if_icmp .ge 27, 3) := by decide +kernel
theorem dX7_insNow_12 : decode cX7_insNow 12 = .ok (.iload_n 1, 1) := by decide +kernel
theorem dX7_insNow_13 : decode cX7_insNow 13 = .ok (.aload_n 0, 1) := by decide +kernel
theorem dX7_insNow_14 : decode cX7_insNow 14 = .ok (.getfield 55, 3) := by decide +kernel
theorem dX7_insNow_17 : decode cX7_insNow 17 = .ok (.iload_n 2, 1) := by decide +kernel
theorem dX7_insNow_18 : decode cX7_insNow 18 = .ok (.iaload, 1) := by decide +kernel
theorem dX7_insNow_19 : decode cX7_insNow 19 = .ok (.iconst (-1), 1) := by decide +kernel
theorem dX7_insNow_20 : decode cX7_insNow 20 = .ok (.if_icmp .eq 7, 3) := by decide +kernel
theorem dX7_insNow_23 : decode cX7_insNow 23 = .ok (.iconst 1, 1) := by decide +kernel
theorem dX7_insNow_24 : decode cX7_insNow 24 = .ok (.goto 4, 3) := by decide +kernel
theorem dX7_insNow_27 : decode cX7_insNow 27 = .ok (.iconst 0, 1) := by decide +kernel
theorem dX7_insNow_28 : decode cX7_insNow 28 = .ok (.iadd, 1) := by decide +kernel
theorem dX7_insNow_29 : decode cX7_insNow 29 = .ok (.istore_n 1, 1) := by decide +kernel
theorem dX7_insNow_30 : decode cX7_insNow 30 = .ok (.iinc 2 1, 3) := by decide +kernel
theorem dX7_insNow_33 : decode cX7_insNow 33 = .ok (.goto (-29), 3) := by decide +kernel
theorem dX7_insNow_36 : decode cX7_insNow 36 = .ok (.iload_n 1, 1) := by decide +kernel
theorem dX7_insNow_37 : decode cX7_insNow 37 = .ok (.ireturn, 1) := by decide +kernel
theorem dX7_leaveOf_0 : decode cX7_leaveOf 0 = .ok (.aload_n 0, 1) := by decide +kernel
theorem dX7_leaveOf_1 : decode cX7_leaveOf 1 = .ok (.invokevirtual 205, 3) := by decide +kernel
theorem dX7_leaveOf_4 : decode cX7_leaveOf 4 = .ok (.iconst (-1), 1) := by decide +kernel
theorem dX7_leaveOf_5 : decode cX7_leaveOf 5 = .ok (.istore_n 3, 1) := by decide +kernel
theorem dX7_leaveOf_6 : decode cX7_leaveOf 6 = .ok (.iconst 0, 1) := by decide +kernel
theorem dX7_leaveOf_7 : decode cX7_leaveOf 7 = .ok (.istore 4, 2) := by decide +kernel
theorem dX7_leaveOf_9 : decode cX7_leaveOf 9 = .ok (.aload_n 0, 1) := by decide +kernel
theorem dX7_leaveOf_10 : decode cX7_leaveOf 10 = .ok (.aload_n 0, 1) := by decide +kernel
theorem dX7_leaveOf_11 : decode cX7_leaveOf 11 = .ok (.getfield 153, 3) := by decide +kernel
theorem dX7_leaveOf_14 : decode cX7_leaveOf 14 = .ok (.iconst 1, 1) := by decide +kernel
theorem dX7_leaveOf_15 : decode cX7_leaveOf 15 = .ok (.iadd, 1) := by decide +kernel
theorem dX7_leaveOf_16 : decode cX7_leaveOf 16 = .ok (.putfield 165, 3) := by decide +kernel
theorem dX7_leaveOf_19 : decode cX7_leaveOf 19 = .ok (.aload_n 0, 1) := by decide +kernel
theorem dX7_leaveOf_20 : decode cX7_leaveOf 20 = .ok (.getfield 43, 3) := by decide +kernel
theorem dX7_leaveOf_23 : decode cX7_leaveOf 23 = .ok (.aload_n 0, 1) := by decide +kernel
theorem dX7_leaveOf_24 : decode cX7_leaveOf 24 = .ok (.getfield 153, 3) := by decide +kernel
theorem dX7_leaveOf_27 : decode cX7_leaveOf 27 = .ok (.iload_n 1, 1) := by decide +kernel
theorem dX7_leaveOf_28 : decode cX7_leaveOf 28 = .ok (.iastore, 1) := by decide +kernel
theorem dX7_leaveOf_29 : decode cX7_leaveOf 29 = .ok (.iconst 0, 1) := by decide +kernel
theorem dX7_leaveOf_30 : decode cX7_leaveOf 30 = .ok (.istore 5, 2) := by decide +kernel
theorem dX7_leaveOf_32 : decode cX7_leaveOf 32 = .ok (.iload 5, 2) := by decide +kernel
theorem dX7_leaveOf_34 : decode cX7_leaveOf 34 = .ok (.aload_n 0, 1) := by decide +kernel
theorem dX7_leaveOf_35 : decode cX7_leaveOf 35 = .ok (.getfield 116, 3) := by decide +kernel
theorem dX7_leaveOf_38 : decode cX7_leaveOf 38 = .ok (.if_icmp .ge 75, 3) := by decide +kernel
theorem dX7_leaveOf_41 : decode cX7_leaveOf 41 = .ok (.aload_n 0, 1) := by decide +kernel
theorem dX7_leaveOf_42 : decode cX7_leaveOf 42 = .ok (.getfield 46, 3) := by decide +kernel
theorem dX7_leaveOf_45 : decode cX7_leaveOf 45 = .ok (.aload_n 0, 1) := by decide +kernel
theorem dX7_leaveOf_46 : decode cX7_leaveOf 46 = .ok (.getfield 153, 3) := by decide +kernel
theorem dX7_leaveOf_49 : decode cX7_leaveOf 49 = .ok (.iload 5, 2) := by decide +kernel
theorem dX7_leaveOf_51 : decode cX7_leaveOf 51 = .ok (.iastore, 1) := by decide +kernel
theorem dX7_leaveOf_52 : decode cX7_leaveOf 52 = .ok (.aload_n 0, 1) := by decide +kernel
theorem dX7_leaveOf_53 : decode cX7_leaveOf 53 = .ok (.invokevirtual 208, 3) := by decide +kernel
theorem dX7_leaveOf_56 : decode cX7_leaveOf 56 = .ok (.aload_n 0, 1) := by decide +kernel
theorem dX7_leaveOf_57 : decode cX7_leaveOf 57 = .ok (.invokevirtual 246, 3) := by decide +kernel
theorem dX7_leaveOf_60 : decode cX7_leaveOf 60 = .ok (.istore 6, 2) := by decide +kernel
theorem dX7_leaveOf_62 : decode cX7_leaveOf 62 = .ok (.iload_n 3, 1) := by decide +kernel
theorem dX7_leaveOf_63 : decode cX7_leaveOf 63 = .ok (.iconst (-1), 1) := by decide +kernel
theorem dX7_leaveOf_64 : decode cX7_leaveOf 64 = .ok (.if_icmp .eq 10, 3) := by decide +kernel
theorem dX7_leaveOf_67 : decode cX7_leaveOf 67 = .ok (.iload 6, 2) := by decide +kernel
theorem dX7_leaveOf_69 : decode cX7_leaveOf 69 = .ok (.iload 4, 2) := by decide +kernel
theorem dX7_leaveOf_71 : decode cX7_leaveOf 71 = .ok (.if_icmp .le 7, 3) := by decide +kernel
theorem dX7_leaveOf_74 : decode cX7_leaveOf 74 = .ok (.iconst 1, 1) := by decide +kernel
theorem dX7_leaveOf_75 : decode cX7_leaveOf 75 = .ok (.goto 4, 3) := by decide +kernel
theorem dX7_leaveOf_78 : decode cX7_leaveOf 78 = .ok (.iconst 0, 1) := by decide +kernel
theorem dX7_leaveOf_79 : decode cX7_leaveOf 79 = .ok (.istore 7, 2) := by decide +kernel
theorem dX7_leaveOf_81 : decode cX7_leaveOf 81 = .ok (.iload 7, 2) := by decide +kernel
theorem dX7_leaveOf_83 : decode cX7_leaveOf 83 = .ok (.ifCond .eq 8, 3) := by decide +kernel
theorem dX7_leaveOf_86 : decode cX7_leaveOf 86 = .ok (.iload 5, 2) := by decide +kernel
theorem dX7_leaveOf_88 : decode cX7_leaveOf 88 = .ok (.goto 4, 3) := by decide +kernel
theorem dX7_leaveOf_91 : decode cX7_leaveOf 91 = .ok (.iload_n 3, 1) := by decide +kernel
theorem dX7_leaveOf_92 : decode cX7_leaveOf 92 = .ok (.istore_n 3, 1) := by decide +kernel
theorem dX7_leaveOf_93 : decode cX7_leaveOf 93 = .ok (.iload 7, 2) := by decide +kernel
theorem dX7_leaveOf_95 : decode cX7_leaveOf 95 = .ok (.ifCond .eq 8, 3) := by decide +kernel
theorem dX7_leaveOf_98 : decode cX7_leaveOf 98 = .ok (.iload 6, 2) := by decide +kernel
theorem dX7_leaveOf_100 : decode cX7_leaveOf 100 = .ok (.goto 5, 3) := by decide +kernel
theorem dX7_leaveOf_103 : decode cX7_leaveOf 103 = .ok (.iload 4, 2) := by decide +kernel
theorem dX7_leaveOf_105 : decode cX7_leaveOf 105 = .ok (.istore 4, 2) := by decide +kernel
theorem dX7_leaveOf_107 : decode cX7_leaveOf 107 = .ok (.iinc 5 1, 3) := by decide +kernel
theorem dX7_leaveOf_110 : decode cX7_leaveOf 110 = .ok (.goto (-78), 3) := by decide +kernel
theorem dX7_leaveOf_113 : decode cX7_leaveOf 113 = .ok (.iload_n 3, 1) := by decide +kernel
theorem dX7_leaveOf_114 : decode cX7_leaveOf 114 = .ok (.iconst (-1), 1) := by decide +kernel
theorem dX7_leaveOf_115 : decode cX7_leaveOf 115 = .ok (.if_icmp .ne 8, 3) := by decide +kernel
theorem dX7_leaveOf_118 : decode cX7_leaveOf 118 = .ok (.ldc 252, 2) := by decide +kernel
theorem dX7_leaveOf_120 : decode cX7_leaveOf 120 = .ok (.goto 13, 3) := by decide +kernel
theorem dX7_leaveOf_123 : decode cX7_leaveOf 123 = .ok (.iload_n 2, 1) := by decide +kernel
theorem dX7_leaveOf_124 : decode cX7_leaveOf 124 = .ok (.ifCond .ne 7, 3) := by decide +kernel
theorem dX7_leaveOf_127 : decode cX7_leaveOf 127 = .ok (.iload_n 3, 1) := by decide +kernel
theorem dX7_leaveOf_128 : decode cX7_leaveOf 128 = .ok (.goto 5, 3) := by decide +kernel
theorem dX7_leaveOf_131 : decode cX7_leaveOf 131 = .ok (.iload 4, 2) := by decide +kernel
theorem dX7_leaveOf_133 : decode cX7_leaveOf 133 = .ok (.ireturn, 1) := by decide +kernel
theorem dX7_leave_0 : decode cX7_leave 0 = .ok (.iload_n 1, 1) := by decide +kernel
theorem dX7_leave_1 : decode cX7_leave 1 = .ok (.invokestatic 150, 3) := by decide +kernel
theorem dX7_leave_4 : decode cX7_leave 4 = .ok (.ifCond .eq 19, 3) := by decide +kernel
theorem dX7_leave_7 : decode cX7_leave 7 = .ok (.iload_n 2, 1) := by decide +kernel
theorem dX7_leave_8 : decode cX7_leave 8 = .ok (.invokestatic 231, 3) := by decide +kernel
theorem dX7_leave_11 : decode cX7_leave 11 = .ok (.ifCond .eq 12, 3) := by decide +kernel
theorem dX7_leave_14 : decode cX7_leave 14 = .ok (.aload_n 0, 1) := by decide +kernel
theorem dX7_leave_15 : decode cX7_leave 15 = .ok (.iload_n 1, 1) := by decide +kernel
theorem dX7_leave_16 : decode cX7_leave 16 = .ok (.iload_n 2, 1) := by decide +kernel
theorem dX7_leave_17 : decode cX7_leave 17 = .ok (.invokevirtual 253, 3) := by decide +kernel
theorem dX7_leave_20 : decode cX7_leave 20 = .ok (.goto 5, 3) := by decide +kernel
theorem dX7_leave_23 : decode cX7_leave 23 = .ok (.ldc 226, 2) := by decide +kernel
theorem dX7_leave_25 : decode cX7_leave 25 = .ok (.ireturn, 1) := by decide +kernel
theorem dX7_beginOf_0 : decode cX7_beginOf 0 = .ok (.aload_n 0, 1) := by decide +kernel
theorem dX7_beginOf_1 : decode cX7_beginOf 1 = .ok (.invokevirtual 205, 3) := by decide +kernel
theorem dX7_beginOf_4 : decode cX7_beginOf 4 = .ok (.aload_n 0, 1) := by decide +kernel
theorem dX7_beginOf_5 : decode cX7_beginOf 5 = .ok (.getfield 31, 3) := by decide +kernel
theorem dX7_beginOf_8 : decode cX7_beginOf 8 = .ok (.iload_n 1, 1) := by decide +kernel
theorem dX7_beginOf_9 : decode cX7_beginOf 9 = .ok (.iaload, 1) := by decide +kernel
theorem dX7_beginOf_10 : decode cX7_beginOf 10 = .ok (.istore_n 3, 1) := by decide +kernel
theorem dX7_beginOf_11 : decode cX7_beginOf 11 = .ok (.iconst (-1), 1) := by decide +kernel
theorem dX7_beginOf_12 : decode cX7_beginOf 12 = .ok (.istore 4, 2) := by decide +kernel
theorem dX7_beginOf_14 : decode cX7_beginOf 14 = .ok (.iconst (-1), 1) := by decide +kernel
theorem dX7_beginOf_15 : decode cX7_beginOf 15 = .ok (.istore 5, 2) := by decide +kernel
theorem dX7_beginOf_17 : decode cX7_beginOf 17 = .ok (.iconst 0, 1) := by decide +kernel
theorem dX7_beginOf_18 : decode cX7_beginOf 18 = .ok (.istore 6, 2) := by decide +kernel
theorem dX7_beginOf_20 : decode cX7_beginOf 20 = .ok (.iload 6, 2) := by decide +kernel
theorem dX7_beginOf_22 : decode cX7_beginOf 22 = .ok (.bipush 24, 2) := by decide +kernel
theorem dX7_beginOf_24 : decode cX7_beginOf 24 = .ok (.if_icmp .ge 59, 3) := by decide +kernel
theorem dX7_beginOf_27 : decode cX7_beginOf 27 = .ok (.aload_n 0, 1) := by decide +kernel
theorem dX7_beginOf_28 : decode cX7_beginOf 28 = .ok (.getfield 31, 3) := by decide +kernel
theorem dX7_beginOf_31 : decode cX7_beginOf 31 = .ok (.iload_n 1, 1) := by decide +kernel
theorem dX7_beginOf_32 : decode cX7_beginOf 32 = .ok (.iload 6, 2) := by decide +kernel
theorem dX7_beginOf_34 : decode cX7_beginOf 34 = .ok (.iastore, 1) := by decide +kernel
theorem dX7_beginOf_35 : decode cX7_beginOf 35 = .ok (.aload_n 0, 1) := by decide +kernel
theorem dX7_beginOf_36 : decode cX7_beginOf 36 = .ok (.invokevirtual 208, 3) := by decide +kernel
theorem dX7_beginOf_39 : decode cX7_beginOf 39 = .ok (.aload_n 0, 1) := by decide +kernel
theorem dX7_beginOf_40 : decode cX7_beginOf 40 = .ok (.invokevirtual 256, 3) := by decide +kernel
theorem dX7_beginOf_43 : decode cX7_beginOf 43 = .ok (.istore 7, 2) := by decide +kernel
theorem dX7_beginOf_45 : decode cX7_beginOf 45 = .ok (.iload 7, 2) := by decide +kernel
theorem dX7_beginOf_47 : decode cX7_beginOf 47 = .ok (.iload 5, 2) := by decide +kernel
theorem dX7_beginOf_49 : decode cX7_beginOf 49 = .ok (.if_icmp .le 8, 3) := by decide +kernel
theorem dX7_beginOf_52 : decode cX7_beginOf 52 = .ok (.iload 6, 2) := by decide +kernel
theorem dX7_beginOf_54 : decode cX7_beginOf 54 = .ok (.goto 5, 3) := by decide +kernel
theorem dX7_beginOf_57 : decode cX7_beginOf 57 = .ok (.iload 4, 2) := by decide +kernel
theorem dX7_beginOf_59 : decode cX7_beginOf 59 = .ok (.istore 4, 2) := by decide +kernel
theorem dX7_beginOf_61 : decode cX7_beginOf 61 = .ok (.iload 7, 2) := by decide +kernel
theorem dX7_beginOf_63 : decode cX7_beginOf 63 = .ok (.iload 5, 2) := by decide +kernel
theorem dX7_beginOf_65 : decode cX7_beginOf 65 = .ok (.if_icmp .le 8, 3) := by decide +kernel
theorem dX7_beginOf_68 : decode cX7_beginOf 68 = .ok (.iload 7, 2) := by decide +kernel
theorem dX7_beginOf_70 : decode cX7_beginOf 70 = .ok (.goto 5, 3) := by decide +kernel
theorem dX7_beginOf_73 : decode cX7_beginOf 73 = .ok (.iload 5, 2) := by decide +kernel
theorem dX7_beginOf_75 : decode cX7_beginOf 75 = .ok (.istore 5, 2) := by decide +kernel
theorem dX7_beginOf_77 : decode cX7_beginOf 77 = .ok (.iinc 6 1, 3) := by decide +kernel
theorem dX7_beginOf_80 : decode cX7_beginOf 80 = .ok (.goto (-60), 3) := by decide +kernel
theorem dX7_beginOf_83 : decode cX7_beginOf 83 = .ok (.aload_n 0, 1) := by decide +kernel
theorem dX7_beginOf_84 : decode cX7_beginOf 84 = .ok (.getfield 31, 3) := by decide +kernel
theorem dX7_beginOf_87 : decode cX7_beginOf 87 = .ok (.iload_n 1, 1) := by decide +kernel
theorem dX7_beginOf_88 : decode cX7_beginOf 88 = .ok (.iload_n 3, 1) := by decide +kernel
theorem dX7_beginOf_89 : decode cX7_beginOf 89 = .ok (.iastore, 1) := by decide +kernel
theorem dX7_beginOf_90 : decode cX7_beginOf 90 = .ok (.iload_n 2, 1) := by decide +kernel
theorem dX7_beginOf_91 : decode cX7_beginOf 91 = .ok (.ifCond .ne 8, 3) := by decide +kernel
theorem dX7_beginOf_94 : decode cX7_beginOf 94 = .ok (.iload 4, 2) := by decide +kernel
theorem dX7_beginOf_96 : decode cX7_beginOf 96 = .ok (.goto 5, 3) := by decide +kernel
theorem dX7_beginOf_99 : decode cX7_beginOf 99 = .ok (.iload 5, 2) := by decide +kernel
theorem dX7_beginOf_101 : decode cX7_beginOf 101 = .ok (.ireturn, 1) := by decide +kernel
theorem dX7_begin_0 : decode cX7_begin 0 = .ok (.aload_n 0, 1) := by decide +kernel
theorem dX7_begin_1 : decode cX7_begin 1 = .ok (.iload_n 1, 1) := by decide +kernel
theorem dX7_begin_2 : decode cX7_begin 2 = .ok (.invokevirtual 144, 3) := by decide +kernel
theorem dX7_begin_5 : decode cX7_begin 5 = .ok (.ifCond .eq 19, 3) := by decide +kernel
theorem dX7_begin_8 : decode cX7_begin 8 = .ok (.iload_n 2, 1) := by decide +kernel
theorem dX7_begin_9 : decode cX7_begin 9 = .ok (.invokestatic 231, 3) := by decide +kernel
theorem dX7_begin_12 : decode cX7_begin 12 = .ok (.ifCond .eq 12, 3) := by decide +kernel
theorem dX7_begin_15 : decode cX7_begin 15 = .ok (.aload_n 0, 1) := by decide +kernel
theorem dX7_begin_16 : decode cX7_begin 16 = .ok (.iload_n 1, 1) := by decide +kernel
theorem dX7_begin_17 : decode cX7_begin 17 = .ok (.iload_n 2, 1) := by decide +kernel
theorem dX7_begin_18 : decode cX7_begin 18 = .ok (.invokevirtual 259, 3) := by decide +kernel
theorem dX7_begin_21 : decode cX7_begin 21 = .ok (.goto 5, 3) := by decide +kernel
theorem dX7_begin_24 : decode cX7_begin 24 = .ok (.bipush (-2), 2) := by decide +kernel
theorem dX7_begin_26 : decode cX7_begin 26 = .ok (.ireturn, 1) := by decide +kernel
theorem dX7_waitOf_0 : decode cX7_waitOf 0 = .ok (.aload_n 0, 1) := by decide +kernel
theorem dX7_waitOf_1 : decode cX7_waitOf 1 = .ok (.invokevirtual 205, 3) := by decide +kernel
theorem dX7_waitOf_4 : decode cX7_waitOf 4 = .ok (.aload_n 0, 1) := by decide +kernel
theorem dX7_waitOf_5 : decode cX7_waitOf 5 = .ok (.getfield 19, 3) := by decide +kernel
theorem dX7_waitOf_8 : decode cX7_waitOf 8 = .ok (.iload_n 1, 1) := by decide +kernel
theorem dX7_waitOf_9 : decode cX7_waitOf 9 = .ok (.iaload, 1) := by decide +kernel
theorem dX7_waitOf_10 : decode cX7_waitOf 10 = .ok (.istore_n 2, 1) := by decide +kernel
theorem dX7_waitOf_11 : decode cX7_waitOf 11 = .ok (.iconst (-1), 1) := by decide +kernel
theorem dX7_waitOf_12 : decode cX7_waitOf 12 = .ok (.istore_n 3, 1) := by decide +kernel
theorem dX7_waitOf_13 : decode cX7_waitOf 13 = .ok (.iconst 1, 1) := by decide +kernel
theorem dX7_waitOf_14 : decode cX7_waitOf 14 = .ok (.istore 4, 2) := by decide +kernel
theorem dX7_waitOf_16 : decode cX7_waitOf 16 = .ok (.iload 4, 2) := by decide +kernel
theorem dX7_waitOf_18 : decode cX7_waitOf 18 = .ok (.bipush 10, 2) := by decide +kernel
theorem dX7_waitOf_20 : decode cX7_waitOf 20 = .ok (.if_icmp .ge 43, 3) := by decide +kernel
theorem dX7_waitOf_23 : decode cX7_waitOf 23 = .ok (.iload_n 3, 1) := by decide +kernel
theorem dX7_waitOf_24 : decode cX7_waitOf 24 = .ok (.iconst (-1), 1) := by decide +kernel
theorem dX7_waitOf_25 : decode cX7_waitOf 25 = .ok (.if_icmp .ne 38, 3) := by decide +kernel
theorem dX7_waitOf_28 : decode cX7_waitOf 28 = .ok (.aload_n 0, 1) := by decide +kernel
theorem dX7_waitOf_29 : decode cX7_waitOf 29 = .ok (.getfield 19, 3) := by decide +kernel
theorem dX7_waitOf_32 : decode cX7_waitOf 32 = .ok (.iload_n 1, 1) := by decide +kernel
theorem dX7_waitOf_33 : decode cX7_waitOf 33 = .ok (.iload 4, 2) := by decide +kernel
theorem dX7_waitOf_35 : decode cX7_waitOf 35 = .ok (.iastore, 1) := by decide +kernel
theorem dX7_waitOf_36 : decode cX7_waitOf 36 = .ok (.aload_n 0, 1) := by decide +kernel
theorem dX7_waitOf_37 : decode cX7_waitOf 37 = .ok (.invokevirtual 208, 3) := by decide +kernel
theorem dX7_waitOf_40 : decode cX7_waitOf 40 = .ok (.aload_n 0, 1) := by decide +kernel
theorem dX7_waitOf_41 : decode cX7_waitOf 41 = .ok (.getfield 55, 3) := by decide +kernel
theorem dX7_waitOf_44 : decode cX7_waitOf 44 = .ok (.iload_n 1, 1) := by decide +kernel
theorem dX7_waitOf_45 : decode cX7_waitOf 45 = .ok (.iaload, 1) := by decide +kernel
theorem dX7_waitOf_46 : decode cX7_waitOf 46 = .ok (.iconst (-1), 1) := by decide +kernel
theorem dX7_waitOf_47 : decode cX7_waitOf 47 = .ok (.if_icmp .eq 8, 3) := by decide +kernel
theorem dX7_waitOf_50 : decode cX7_waitOf 50 = .ok (.iload 4, 2) := by decide +kernel
theorem dX7_waitOf_52 : decode cX7_waitOf 52 = .ok (.goto 4, 3) := by decide +kernel
theorem dX7_waitOf_55 : decode cX7_waitOf 55 = .ok (.iconst (-1), 1) := by decide +kernel
theorem dX7_waitOf_56 : decode cX7_waitOf 56 = .ok (.istore_n 3, 1) := by decide +kernel
theorem dX7_waitOf_57 : decode cX7_waitOf 57 = .ok (.iinc 4 1, 3) := by decide +kernel
theorem dX7_waitOf_60 : decode cX7_waitOf 60 = .ok (.goto (-44), 3) := by decide +kernel
theorem dX7_waitOf_63 : decode cX7_waitOf 63 = .ok (.aload_n 0, 1) := by decide +kernel
theorem dX7_waitOf_64 : decode cX7_waitOf 64 = .ok (.getfield 19, 3) := by decide +kernel
theorem dX7_waitOf_67 : decode cX7_waitOf 67 = .ok (.iload_n 1, 1) := by decide +kernel
theorem dX7_waitOf_68 : decode cX7_waitOf 68 = .ok (.iload_n 2, 1) := by decide +kernel
theorem dX7_waitOf_69 : decode cX7_waitOf 69 = .ok (.iastore, 1) := by decide +kernel
theorem dX7_waitOf_70 : decode cX7_waitOf 70 = .ok (.iload_n 3, 1) := by decide +kernel
theorem dX7_waitOf_71 : decode cX7_waitOf 71 = .ok (.ireturn, 1) := by decide +kernel
theorem dX7_patience_0 : decode cX7_patience 0 = .ok (.aload_n 0, 1) := by decide +kernel
theorem dX7_patience_1 : decode cX7_patience 1 = .ok (.iload_n 1, 1) := by decide +kernel
theorem dX7_patience_2 : decode cX7_patience 2 = .ok (.invokevirtual 138, 3) := by decide +kernel
theorem dX7_patience_5 : decode cX7_patience 5 = .ok (.ifCond .eq 11, 3) := by decide +kernel
theorem dX7_patience_8 : decode cX7_patience 8 = .ok (.aload_n 0, 1) := by decide +kernel
theorem dX7_patience_9 : decode cX7_patience 9 = .ok (.iload_n 1, 1) := by decide +kernel
theorem dX7_patience_10 : decode cX7_patience 10 = .ok (.invokevirtual 262, 3) := by decide +kernel
theorem dX7_patience_13 : decode cX7_patience 13 = .ok (.goto 5, 3) := by decide +kernel
theorem dX7_patience_16 : decode cX7_patience 16 = .ok (.bipush (-2), 2) := by decide +kernel
theorem dX7_patience_18 : decode cX7_patience 18 = .ok (.ireturn, 1) := by decide +kernel
theorem dX7_isBurnt_0 : decode cX7_isBurnt 0 = .ok (.aload_n 0, 1) := by decide +kernel
theorem dX7_isBurnt_1 : decode cX7_isBurnt 1 = .ok (.iload_n 1, 1) := by decide +kernel
theorem dX7_isBurnt_2 : decode cX7_isBurnt 2 = .ok (.putfield 168, 3) := by decide +kernel
theorem dX7_isBurnt_5 : decode cX7_isBurnt 5 = .ok (.aload_n 0, 1) := by decide +kernel
theorem dX7_isBurnt_6 : decode cX7_isBurnt 6 = .ok (.invokevirtual 208, 3) := by decide +kernel
theorem dX7_isBurnt_9 : decode cX7_isBurnt 9 = .ok (.iconst 0, 1) := by decide +kernel
theorem dX7_isBurnt_10 : decode cX7_isBurnt 10 = .ok (.istore_n 2, 1) := by decide +kernel
theorem dX7_isBurnt_11 : decode cX7_isBurnt 11 = .ok (.iconst 0, 1) := by decide +kernel
theorem dX7_isBurnt_12 : decode cX7_isBurnt 12 = .ok (.istore_n 3, 1) := by decide +kernel
theorem dX7_isBurnt_13 : decode cX7_isBurnt 13 = .ok (.iload_n 3, 1) := by decide +kernel
theorem dX7_isBurnt_14 : decode cX7_isBurnt 14 = .ok (.aload_n 0, 1) := by decide +kernel
theorem dX7_isBurnt_15 : decode cX7_isBurnt 15 = .ok (.getfield 116, 3) := by decide +kernel
theorem dX7_isBurnt_18 : decode cX7_isBurnt 18 = .ok (.if_icmp .ge 29, 3) := by decide +kernel
theorem dX7_isBurnt_21 : decode cX7_isBurnt 21 = .ok (.iload_n 2, 1) := by decide +kernel
theorem dX7_isBurnt_22 : decode cX7_isBurnt 22 = .ok (.ifCond .ne 13, 3) := by decide +kernel
theorem dX7_isBurnt_25 : decode cX7_isBurnt 25 = .ok (.aload_n 0, 1) := by decide +kernel
theorem dX7_isBurnt_26 : decode cX7_isBurnt 26 = .ok (.getfield 55, 3) := by decide +kernel
theorem dX7_isBurnt_29 : decode cX7_isBurnt 29 = .ok (.iload_n 3, 1) := by decide +kernel
theorem dX7_isBurnt_30 : decode cX7_isBurnt 30 = .ok (.iaload, 1) := by decide +kernel
theorem dX7_isBurnt_31 : decode cX7_isBurnt 31 = .ok (.iconst 1, 1) := by decide +kernel
theorem dX7_isBurnt_32 : decode cX7_isBurnt 32 = .ok (.if_icmp .ne 7, 3) := by decide +kernel
theorem dX7_isBurnt_35 : decode cX7_isBurnt 35 = .ok (.iconst 1, 1) := by decide +kernel
theorem dX7_isBurnt_36 : decode cX7_isBurnt 36 = .ok (.goto 4, 3) := by decide +kernel
theorem dX7_isBurnt_39 : decode cX7_isBurnt 39 = .ok (.iconst 0, 1) := by decide +kernel
theorem dX7_isBurnt_40 : decode cX7_isBurnt 40 = .ok (.istore_n 2, 1) := by decide +kernel
theorem dX7_isBurnt_41 : decode cX7_isBurnt 41 = .ok (.iinc 3 1, 3) := by decide +kernel
theorem dX7_isBurnt_44 : decode cX7_isBurnt 44 = .ok (.goto (-31), 3) := by decide +kernel
theorem dX7_isBurnt_47 : decode cX7_isBurnt 47 = .ok (.iload_n 2, 1) := by decide +kernel
theorem dX7_isBurnt_48 : decode cX7_isBurnt 48 = .ok (.ifCond .ne 7, 3) := by decide +kernel
theorem dX7_isBurnt_51 : decode cX7_isBurnt 51 = .ok (.iconst 1, 1) := by decide +kernel
theorem dX7_isBurnt_52 : decode cX7_isBurnt 52 = .ok (.goto 4, 3) := by decide +kernel
theorem dX7_isBurnt_55 : decode cX7_isBurnt 55 = .ok (.iconst 0, 1) := by decide +kernel
theorem dX7_isBurnt_56 : decode cX7_isBurnt 56 = .ok (.ireturn, 1) := by decide +kernel
theorem dX7_burnBy_0 : decode cX7_burnBy 0 = .ok (.aload_n 0, 1) := by decide +kernel
theorem dX7_burnBy_1 : decode cX7_burnBy 1 = .ok (.invokevirtual 205, 3) := by decide +kernel
theorem dX7_burnBy_4 : decode cX7_burnBy 4 = .ok (.aload_n 0, 1) := by decide +kernel
theorem dX7_burnBy_5 : decode cX7_burnBy 5 = .ok (.iconst 0, 1) := by decide +kernel
theorem dX7_burnBy_6 : decode cX7_burnBy 6 = .ok (.invokevirtual 265, 3) := by decide +kernel
theorem dX7_burnBy_9 : decode cX7_burnBy 9 = .ok (.ifCond .eq 5, 3) := by decide +kernel
theorem dX7_burnBy_12 : decode cX7_burnBy 12 = .ok (.iconst 0, 1) := by decide +kernel
theorem dX7_burnBy_13 : decode cX7_burnBy 13 = .ok (.ireturn, 1) := by decide +kernel
theorem dX7_burnBy_14 : decode cX7_burnBy 14 = .ok (.iconst 0, 1) := by decide +kernel
theorem dX7_burnBy_15 : decode cX7_burnBy 15 = .ok (.istore_n 1, 1) := by decide +kernel
theorem dX7_burnBy_16 : decode cX7_burnBy 16 = .ok (.iload_n 1, 1) := by decide +kernel
theorem dX7_burnBy_17 : decode cX7_burnBy 17 = .ok (.aload_n 0, 1) := by decide +kernel
theorem dX7_burnBy_18 : decode cX7_burnBy 18 = .ok (.getfield 153, 3) := by decide +kernel
theorem dX7_burnBy_21 : decode cX7_burnBy 21 = .ok (.if_icmp .ge 28, 3) := by decide +kernel
theorem dX7_burnBy_24 : decode cX7_burnBy 24 = .ok (.aload_n 0, 1) := by decide +kernel
theorem dX7_burnBy_25 : decode cX7_burnBy 25 = .ok (.getfield 70, 3) := by decide +kernel
theorem dX7_burnBy_28 : decode cX7_burnBy 28 = .ok (.iconst 0, 1) := by decide +kernel
theorem dX7_burnBy_29 : decode cX7_burnBy 29 = .ok (.iload_n 1, 1) := by decide +kernel
theorem dX7_burnBy_30 : decode cX7_burnBy 30 = .ok (.iastore, 1) := by decide +kernel
theorem dX7_burnBy_31 : decode cX7_burnBy 31 = .ok (.aload_n 0, 1) := by decide +kernel
theorem dX7_burnBy_32 : decode cX7_burnBy 32 = .ok (.iconst 1, 1) := by decide +kernel
theorem dX7_burnBy_33 : decode cX7_burnBy 33 = .ok (.iload_n 1, 1) := by decide +kernel
theorem dX7_burnBy_34 : decode cX7_burnBy 34 = .ok (.ishl, 1) := by decide +kernel
theorem dX7_burnBy_35 : decode cX7_burnBy 35 = .ok (.invokevirtual 265, 3) := by decide +kernel
theorem dX7_burnBy_38 : decode cX7_burnBy 38 = .ok (.ifCond .eq 5, 3) := by decide +kernel
theorem dX7_burnBy_41 : decode cX7_burnBy 41 = .ok (.iconst 1, 1) := by decide +kernel
theorem dX7_burnBy_42 : decode cX7_burnBy 42 = .ok (.ireturn, 1) := by decide +kernel
theorem dX7_burnBy_43 : decode cX7_burnBy 43 = .ok (.iinc 1 1, 3) := by decide +kernel
theorem dX7_burnBy_46 : decode cX7_burnBy 46 = .ok (.goto (-30), 3) := by decide +kernel
theorem dX7_burnBy_49 : decode cX7_burnBy 49 = .ok (.iconst 0, 1) := by decide +kernel
theorem dX7_burnBy_50 : decode cX7_burnBy 50 = .ok (.istore_n 1, 1) := by decide +kernel
theorem dX7_burnBy_51 : decode cX7_burnBy 51 = .ok (.iload_n 1, 1) := by decide +kernel
theorem dX7_burnBy_52 : decode cX7_burnBy 52 = .ok (.aload_n 0, 1) := by decide +kernel
theorem dX7_burnBy_53 : decode cX7_burnBy 53 = .ok (.getfield 153, 3) := by decide +kernel
theorem dX7_burnBy_56 : decode cX7_burnBy 56 = .ok (.if_icmp .ge 57, 3) := by decide +kernel
theorem dX7_burnBy_59 : decode cX7_burnBy 59 = .ok (.iload_n 1, 1) := by decide +kernel
theorem dX7_burnBy_60 : decode cX7_burnBy 60 = .ok (.iconst 1, 1) := by decide +kernel
theorem dX7_burnBy_61 : decode cX7_burnBy 61 = .ok (.iadd, 1) := by decide +kernel
theorem dX7_burnBy_62 : decode cX7_burnBy 62 = .ok (.istore_n 2, 1) := by decide +kernel
theorem dX7_burnBy_63 : decode cX7_burnBy 63 = .ok (.iload_n 2, 1) := by decide +kernel
theorem dX7_burnBy_64 : decode cX7_burnBy 64 = .ok (.aload_n 0, 1) := by decide +kernel
theorem dX7_burnBy_65 : decode cX7_burnBy 65 = .ok (.getfield 153, 3) := by decide +kernel
theorem dX7_burnBy_68 : decode cX7_burnBy 68 = .ok (.if_icmp .ge 39, 3) := by decide +kernel
theorem dX7_burnBy_71 : decode cX7_burnBy 71 = .ok (.aload_n 0, 1) := by decide +kernel
theorem dX7_burnBy_72 : decode cX7_burnBy 72 = .ok (.getfield 70, 3) := by decide +kernel
theorem dX7_burnBy_75 : decode cX7_burnBy 75 = .ok (.iconst 0, 1) := by decide +kernel
theorem dX7_burnBy_76 : decode cX7_burnBy 76 = .ok (.iload_n 1, 1) := by decide +kernel
theorem dX7_burnBy_77 : decode cX7_burnBy 77 = .ok (.iastore, 1) := by decide +kernel
theorem dX7_burnBy_78 : decode cX7_burnBy 78 = .ok (.aload_n 0, 1) := by decide +kernel
theorem dX7_burnBy_79 : decode cX7_burnBy 79 = .ok (.getfield 70, 3) := by decide +kernel
theorem dX7_burnBy_82 : decode cX7_burnBy 82 = .ok (.iconst 1, 1) := by decide +kernel
theorem dX7_burnBy_83 : decode cX7_burnBy 83 = .ok (.iload_n 2, 1) := by decide +kernel
theorem dX7_burnBy_84 : decode cX7_burnBy 84 = .ok (.iastore, 1) := by decide +kernel
theorem dX7_burnBy_85 : decode cX7_burnBy 85 = .ok (.aload_n 0, 1) := by decide +kernel
theorem dX7_burnBy_86 : decode cX7_burnBy 86 = .ok (.iconst 1, 1) := by decide +kernel
theorem dX7_burnBy_87 : decode cX7_burnBy 87 = .ok (.iload_n 1, 1) := by decide +kernel
theorem dX7_burnBy_88 : decode cX7_burnBy 88 = .ok (.ishl, 1) := by decide +kernel
theorem dX7_burnBy_89 : decode cX7_burnBy 89 = .ok (.iconst 1, 1) := by decide +kernel
theorem dX7_burnBy_90 : decode cX7_burnBy 90 = .ok (.iload_n 2, 1) := by decide +kernel
theorem dX7_burnBy_91 : decode cX7_burnBy 91 = .ok (.ishl, 1) := by decide +kernel
theorem dX7_burnBy_92 : decode cX7_burnBy 92 = .ok (.ior, 1) := by decide +kernel
theorem dX7_burnBy_93 : decode cX7_burnBy 93 = .ok (.invokevirtual 265, 3) := by decide +kernel
theorem dX7_burnBy_96 : decode cX7_burnBy 96 = .ok (.ifCond .eq 5, 3) := by decide +kernel
theorem dX7_burnBy_99 : decode cX7_burnBy 99 = .ok (.iconst 2, 1) := by decide +kernel
theorem dX7_burnBy_100 : decode cX7_burnBy 100 = .ok (.ireturn, 1) := by decide +kernel
theorem dX7_burnBy_101 : decode cX7_burnBy 101 = .ok (.iinc 2 1, 3) := by decide +kernel
theorem dX7_burnBy_104 : decode cX7_burnBy 104 = .ok (.goto (-41), 3) := by decide +kernel
theorem dX7_burnBy_107 : decode cX7_burnBy 107 = .ok (.iinc 1 1, 3) := by decide +kernel
theorem dX7_burnBy_110 : decode cX7_burnBy 110 = .ok (.goto (-59), 3) := by decide +kernel
theorem dX7_burnBy_113 : decode cX7_burnBy 113 = .ok (.iconst (-1), 1) := by decide +kernel
theorem dX7_burnBy_114 : decode cX7_burnBy 114 = .ok (.ireturn, 1) := by decide +kernel
theorem dX7_ofRow_0 : decode cX7_ofRow 0 = .ok (.iload_n 2, 1) := by decide +kernel
theorem dX7_ofRow_1 : decode cX7_ofRow 1 = .ok (.iconst (-1), 1) := by decide +kernel
theorem dX7_ofRow_2 : decode cX7_ofRow 2 = .ok (.if_icmp .ne 7, 3) := by decide +kernel
theorem dX7_ofRow_5 : decode cX7_ofRow 5 = .ok (.iload_n 1, 1) := by decide +kernel
theorem dX7_ofRow_6 : decode cX7_ofRow 6 = .ok (.goto 18, 3) := by decide +kernel
theorem dX7_ofRow_9 : decode cX7_ofRow 9 = .ok (.iload_n 2, 1) := by decide +kernel
theorem dX7_ofRow_10 : decode cX7_ofRow 10 = .ok (.iload_n 1, 1) := by decide +kernel
theorem dX7_ofRow_11 : decode cX7_ofRow 11 = .ok (.if_icmp .ge 12, 3) := by decide +kernel
theorem dX7_ofRow_14 : decode cX7_ofRow 14 = .ok (.aload_n 0, 1) := by decide +kernel
theorem dX7_ofRow_15 : decode cX7_ofRow 15 = .ok (.getfield 70, 3) := by decide +kernel
theorem dX7_ofRow_18 : decode cX7_ofRow 18 = .ok (.iload_n 2, 1) := by decide +kernel
theorem dX7_ofRow_19 : decode cX7_ofRow 19 = .ok (.iaload, 1) := by decide +kernel
theorem dX7_ofRow_20 : decode cX7_ofRow 20 = .ok (.goto 4, 3) := by decide +kernel
theorem dX7_ofRow_23 : decode cX7_ofRow 23 = .ok (.iconst (-1), 1) := by decide +kernel
theorem dX7_ofRow_24 : decode cX7_ofRow 24 = .ok (.ireturn, 1) := by decide +kernel
theorem dX7_burn_0 : decode cX7_burn 0 = .ok (.iload_n 1, 1) := by decide +kernel
theorem dX7_burn_1 : decode cX7_burn 1 = .ok (.iconst (-1), 1) := by decide +kernel
theorem dX7_burn_2 : decode cX7_burn 2 = .ok (.iconst 1, 1) := by decide +kernel
theorem dX7_burn_3 : decode cX7_burn 3 = .ok (.invokestatic 100, 3) := by decide +kernel
theorem dX7_burn_6 : decode cX7_burn 6 = .ok (.ifCond .eq 15, 3) := by decide +kernel
theorem dX7_burn_9 : decode cX7_burn 9 = .ok (.aload_n 0, 1) := by decide +kernel
theorem dX7_burn_10 : decode cX7_burn 10 = .ok (.aload_n 0, 1) := by decide +kernel
theorem dX7_burn_11 : decode cX7_burn 11 = .ok (.invokevirtual 268, 3) := by decide +kernel
theorem dX7_burn_14 : decode cX7_burn 14 = .ok (.iload_n 1, 1) := by decide +kernel
theorem dX7_burn_15 : decode cX7_burn 15 = .ok (.invokevirtual 271, 3) := by decide +kernel
theorem dX7_burn_18 : decode cX7_burn 18 = .ok (.goto 5, 3) := by decide +kernel
theorem dX7_burn_21 : decode cX7_burn 21 = .ok (.bipush (-2), 2) := by decide +kernel
theorem dX7_burn_23 : decode cX7_burn 23 = .ok (.ireturn, 1) := by decide +kernel
theorem dX7_feel_0 : decode cX7_feel 0 = .ok (.iload_n 1, 1) := by decide +kernel
theorem dX7_feel_1 : decode cX7_feel 1 = .ok (.invokestatic 150, 3) := by decide +kernel
theorem dX7_feel_4 : decode cX7_feel 4 = .ok (.ifCond .eq 14, 3) := by decide +kernel
theorem dX7_feel_7 : decode cX7_feel 7 = .ok (.iload_n 2, 1) := by decide +kernel
theorem dX7_feel_8 : decode cX7_feel 8 = .ok (.bipush (-40), 2) := by decide +kernel
theorem dX7_feel_10 : decode cX7_feel 10 = .ok (.bipush 40, 2) := by decide +kernel
theorem dX7_feel_12 : decode cX7_feel 12 = .ok (.invokestatic 100, 3) := by decide +kernel
theorem dX7_feel_15 : decode cX7_feel 15 = .ok (.ifCond .ne 6, 3) := by decide +kernel
theorem dX7_feel_18 : decode cX7_feel 18 = .ok (.bipush (-2), 2) := by decide +kernel
theorem dX7_feel_20 : decode cX7_feel 20 = .ok (.ireturn, 1) := by decide +kernel
theorem dX7_feel_21 : decode cX7_feel 21 = .ok (.aload_n 0, 1) := by decide +kernel
theorem dX7_feel_22 : decode cX7_feel 22 = .ok (.getfield 274, 3) := by decide +kernel
theorem dX7_feel_25 : decode cX7_feel 25 = .ok (.bipush 8, 2) := by decide +kernel
theorem dX7_feel_27 : decode cX7_feel 27 = .ok (.if_icmp .ne 6, 3) := by decide +kernel
theorem dX7_feel_30 : decode cX7_feel 30 = .ok (.bipush (-4), 2) := by decide +kernel
theorem dX7_feel_32 : decode cX7_feel 32 = .ok (.ireturn, 1) := by decide +kernel
theorem dX7_feel_33 : decode cX7_feel 33 = .ok (.aload_n 0, 1) := by decide +kernel
theorem dX7_feel_34 : decode cX7_feel 34 = .ok (.getfield 73, 3) := by decide +kernel
theorem dX7_feel_37 : decode cX7_feel 37 = .ok (.aload_n 0, 1) := by decide +kernel
theorem dX7_feel_38 : decode cX7_feel 38 = .ok (.getfield 274, 3) := by decide +kernel
theorem dX7_feel_41 : decode cX7_feel 41 = .ok (.iload_n 1, 1) := by decide +kernel
theorem dX7_feel_42 : decode cX7_feel 42 = .ok (.iastore, 1) := by decide +kernel
theorem dX7_feel_43 : decode cX7_feel 43 = .ok (.aload_n 0, 1) := by decide +kernel
theorem dX7_feel_44 : decode cX7_feel 44 = .ok (.getfield 76, 3) := by decide +kernel
theorem dX7_feel_47 : decode cX7_feel 47 = .ok (.aload_n 0, 1) := by decide +kernel
theorem dX7_feel_48 : decode cX7_feel 48 = .ok (.getfield 274, 3) := by decide +kernel
theorem dX7_feel_51 : decode cX7_feel 51 = .ok (.iload_n 2, 1) := by decide +kernel
theorem dX7_feel_52 : decode cX7_feel 52 = .ok (.iastore, 1) := by decide +kernel
theorem dX7_feel_53 : decode cX7_feel 53 = .ok (.aload_n 0, 1) := by decide +kernel
theorem dX7_feel_54 : decode cX7_feel 54 = .ok (.dup, 1) := by decide +kernel
theorem dX7_feel_55 : decode cX7_feel 55 = .ok (.getfield 274, 3) := by decide +kernel
theorem dX7_feel_58 : decode cX7_feel 58 = .ok (.iconst 1, 1) := by decide +kernel
theorem dX7_feel_59 : decode cX7_feel 59 = .ok (.iadd, 1) := by decide +kernel
theorem dX7_feel_60 : decode cX7_feel 60 = .ok (.putfield 274, 3) := by decide +kernel
theorem dX7_feel_63 : decode cX7_feel 63 = .ok (.aload_n 0, 1) := by decide +kernel
theorem dX7_feel_64 : decode cX7_feel 64 = .ok (.getfield 274, 3) := by decide +kernel
theorem dX7_feel_67 : decode cX7_feel 67 = .ok (.ireturn, 1) := by decide +kernel
theorem dX7_forget_0 : decode cX7_forget 0 = .ok (.aload_n 0, 1) := by decide +kernel
theorem dX7_forget_1 : decode cX7_forget 1 = .ok (.getfield 274, 3) := by decide +kernel
theorem dX7_forget_4 : decode cX7_forget 4 = .ok (.istore_n 1, 1) := by decide +kernel
theorem dX7_forget_5 : decode cX7_forget 5 = .ok (.aload_n 0, 1) := by decide +kernel
theorem dX7_forget_6 : decode cX7_forget 6 = .ok (.iconst 0, 1) := by decide +kernel
theorem dX7_forget_7 : decode cX7_forget 7 = .ok (.putfield 274, 3) := by decide +kernel
theorem dX7_forget_10 : decode cX7_forget 10 = .ok (.iload_n 1, 1) := by decide +kernel
theorem dX7_forget_11 : decode cX7_forget 11 = .ok (.ireturn, 1) := by decide +kernel
theorem dX7_isFelt_0 : decode cX7_isFelt 0 = .ok (.aload_n 0, 1) := by decide +kernel
theorem dX7_isFelt_1 : decode cX7_isFelt 1 = .ok (.invokevirtual 208, 3) := by decide +kernel
theorem dX7_isFelt_4 : decode cX7_isFelt 4 = .ok (.iconst 1, 1) := by decide +kernel
theorem dX7_isFelt_5 : decode cX7_isFelt 5 = .ok (.istore_n 1, 1) := by decide +kernel
theorem dX7_isFelt_6 : decode cX7_isFelt 6 = .ok (.iconst 0, 1) := by decide +kernel
theorem dX7_isFelt_7 : decode cX7_isFelt 7 = .ok (.istore_n 2, 1) := by decide +kernel
theorem dX7_isFelt_8 : decode cX7_isFelt 8 = .ok (.iload_n 2, 1) := by decide +kernel
theorem dX7_isFelt_9 : decode cX7_isFelt 9 = .ok (.aload_n 0, 1) := by decide +kernel
theorem dX7_isFelt_10 : decode cX7_isFelt 10 = .ok (.getfield 274, 3) := by decide +kernel
theorem dX7_isFelt_13 : decode cX7_isFelt 13 = .ok (.if_icmp .ge 39, 3) := by decide +kernel
theorem dX7_isFelt_16 : decode cX7_isFelt 16 = .ok (.iload_n 1, 1) := by decide +kernel
theorem dX7_isFelt_17 : decode cX7_isFelt 17 = .ok (.ifCond .eq 35, 3) := by decide +kernel
theorem dX7_isFelt_20 : decode cX7_isFelt 20 = .ok (.aload_n 0, 1) := by decide +kernel
theorem dX7_isFelt_21 : decode cX7_isFelt 21 = .ok (.getfield 67, 3) := by decide +kernel
theorem dX7_isFelt_24 : decode cX7_isFelt 24 = .ok (.aload_n 0, 1) := by decide +kernel
theorem dX7_isFelt_25 : decode cX7_isFelt 25 = .ok (.getfield 73, 3) := by decide +kernel
theorem dX7_isFelt_28 : decode cX7_isFelt 28 = .ok (.iload_n 2, 1) := by decide +kernel
theorem dX7_isFelt_29 : decode cX7_isFelt 29 = .ok (.iaload, 1) := by decide +kernel
theorem dX7_isFelt_30 : decode cX7_isFelt 30 = .ok (.iaload, 1) := by decide +kernel
theorem dX7_isFelt_31 : decode cX7_isFelt 31 = .ok (.aload_n 0, 1) := by decide +kernel
theorem dX7_isFelt_32 : decode cX7_isFelt 32 = .ok (.getfield 76, 3) := by decide +kernel
theorem dX7_isFelt_35 : decode cX7_isFelt 35 = .ok (.iload_n 2, 1) := by decide +kernel
theorem dX7_isFelt_36 : decode cX7_isFelt 36 = .ok (.iaload, 1) := by decide +kernel
theorem dX7_isFelt_37 : decode cX7_isFelt 37 = .ok (.if_icmp .ne 7, 3) := by decide +kernel
theorem dX7_isFelt_40 : decode cX7_isFelt 40 = .ok (.iconst 1, 1) := by decide +kernel
theorem dX7_isFelt_41 : decode cX7_isFelt 41 = .ok (.goto 4, 3) := by decide +kernel
theorem dX7_isFelt_44 : decode cX7_isFelt 44 = .ok (.iconst 0, 1) := by decide +kernel
theorem dX7_isFelt_45 : decode cX7_isFelt 45 = .ok (.istore_n 1, 1) := by decide +kernel
theorem dX7_isFelt_46 : decode cX7_isFelt 46 = .ok (.iinc 2 1, 3) := by decide +kernel
theorem dX7_isFelt_49 : decode cX7_isFelt 49 = .ok (.goto (-41), 3) := by decide +kernel
theorem dX7_isFelt_52 : decode cX7_isFelt 52 = .ok (.iload_n 1, 1) := by decide +kernel
theorem dX7_isFelt_53 : decode cX7_isFelt 53 = .ok (.ireturn, 1) := by decide +kernel
theorem dX7_neverNow_0 : decode cX7_neverNow 0 = .ok (.aload_n 0, 1) := by decide +kernel
theorem dX7_neverNow_1 : decode cX7_neverNow 1 = .ok (.invokevirtual 205, 3) := by decide +kernel
theorem dX7_neverNow_4 : decode cX7_neverNow 4 = .ok (.iconst 0, 1) := by decide +kernel
theorem dX7_neverNow_5 : decode cX7_neverNow 5 = .ok (.istore_n 1, 1) := by decide +kernel
theorem dX7_neverNow_6 : decode cX7_neverNow 6 = .ok (.iconst 0, 1) := by decide +kernel
theorem dX7_neverNow_7 : decode cX7_neverNow 7 = .ok (.istore_n 2, 1) := by decide +kernel
theorem dX7_neverNow_8 : decode cX7_neverNow 8 = .ok (.iload_n 2, 1) := by decide +kernel
theorem dX7_neverNow_9 : decode cX7_neverNow 9 = .ok (.aload_n 0, 1) := by decide +kernel
theorem dX7_neverNow_10 : decode cX7_neverNow 10 = .ok (.getfield 153, 3) := by decide +kernel
theorem dX7_neverNow_13 : decode cX7_neverNow 13 = .ok (.if_icmp .ge 33, 3) := by decide +kernel
theorem dX7_neverNow_16 : decode cX7_neverNow 16 = .ok (.aload_n 0, 1) := by decide +kernel
theorem dX7_neverNow_17 : decode cX7_neverNow 17 = .ok (.iconst 1, 1) := by decide +kernel
theorem dX7_neverNow_18 : decode cX7_neverNow 18 = .ok (.iload_n 2, 1) := by decide +kernel
theorem dX7_neverNow_19 : decode cX7_neverNow 19 = .ok (.ishl, 1) := by decide +kernel
theorem dX7_neverNow_20 : decode cX7_neverNow 20 = .ok (.putfield 168, 3) := by decide +kernel
theorem dX7_neverNow_23 : decode cX7_neverNow 23 = .ok (.iload_n 1, 1) := by decide +kernel
theorem dX7_neverNow_24 : decode cX7_neverNow 24 = .ok (.aload_n 0, 1) := by decide +kernel
theorem dX7_neverNow_25 : decode cX7_neverNow 25 = .ok (.invokevirtual 277, 3) := by decide +kernel
theorem dX7_neverNow_28 : decode cX7_neverNow 28 = .ok (.ifCond .eq 9, 3) := by decide +kernel
theorem dX7_neverNow_31 : decode cX7_neverNow 31 = .ok (.iconst 1, 1) := by decide +kernel
theorem dX7_neverNow_32 : decode cX7_neverNow 32 = .ok (.iload_n 2, 1) := by decide +kernel
theorem dX7_neverNow_33 : decode cX7_neverNow 33 = .ok (.ishl, 1) := by decide +kernel
theorem dX7_neverNow_34 : decode cX7_neverNow 34 = .ok (.goto 4, 3) := by decide +kernel
theorem dX7_neverNow_37 : decode cX7_neverNow 37 = .ok (.iconst 0, 1) := by decide +kernel
theorem dX7_neverNow_38 : decode cX7_neverNow 38 = .ok (.ior, 1) := by decide +kernel
theorem dX7_neverNow_39 : decode cX7_neverNow 39 = .ok (.istore_n 1, 1) := by decide +kernel
theorem dX7_neverNow_40 : decode cX7_neverNow 40 = .ok (.iinc 2 1, 3) := by decide +kernel
theorem dX7_neverNow_43 : decode cX7_neverNow 43 = .ok (.goto (-35), 3) := by decide +kernel
theorem dX7_neverNow_46 : decode cX7_neverNow 46 = .ok (.iload_n 1, 1) := by decide +kernel
theorem dX7_neverNow_47 : decode cX7_neverNow 47 = .ok (.ireturn, 1) := by decide +kernel
theorem dX7_never_0 : decode cX7_never 0 = .ok (.aload_n 0, 1) := by decide +kernel
theorem dX7_never_1 : decode cX7_never 1 = .ok (.invokevirtual 281, 3) := by decide +kernel
theorem dX7_never_4 : decode cX7_never 4 = .ok (.ireturn, 1) := by decide +kernel
theorem dX7_sortsBy_0 : decode cX7_sortsBy 0 = .ok (.aload_n 0, 1) := by decide +kernel
theorem dX7_sortsBy_1 : decode cX7_sortsBy 1 = .ok (.invokevirtual 205, 3) := by decide +kernel
theorem dX7_sortsBy_4 : decode cX7_sortsBy 4 = .ok (.aload_n 0, 1) := by decide +kernel
theorem dX7_sortsBy_5 : decode cX7_sortsBy 5 = .ok (.getfield 16, 3) := by decide +kernel
theorem dX7_sortsBy_8 : decode cX7_sortsBy 8 = .ok (.iload_n 1, 1) := by decide +kernel
theorem dX7_sortsBy_9 : decode cX7_sortsBy 9 = .ok (.iaload, 1) := by decide +kernel
theorem dX7_sortsBy_10 : decode cX7_sortsBy 10 = .ok (.istore_n 2, 1) := by decide +kernel
theorem dX7_sortsBy_11 : decode cX7_sortsBy 11 = .ok (.iconst 0, 1) := by decide +kernel
theorem dX7_sortsBy_12 : decode cX7_sortsBy 12 = .ok (.istore_n 3, 1) := by decide +kernel
theorem dX7_sortsBy_13 : decode cX7_sortsBy 13 = .ok (.iconst 0, 1) := by decide +kernel
theorem dX7_sortsBy_14 : decode cX7_sortsBy 14 = .ok (.istore 4, 2) := by decide +kernel
theorem dX7_sortsBy_16 : decode cX7_sortsBy 16 = .ok (.iload 4, 2) := by decide +kernel
theorem dX7_sortsBy_18 : decode cX7_sortsBy 18 = .ok (.iconst 4, 1) := by decide +kernel
theorem dX7_sortsBy_19 : decode cX7_sortsBy 19 = .ok (.if_icmp .ge 35, 3) := by decide +kernel
theorem dX7_sortsBy_22 : decode cX7_sortsBy 22 = .ok (.aload_n 0, 1) := by decide +kernel
theorem dX7_sortsBy_23 : decode cX7_sortsBy 23 = .ok (.getfield 16, 3) := by decide +kernel
theorem dX7_sortsBy_26 : decode cX7_sortsBy 26 = .ok (.iload_n 1, 1) := by decide +kernel
theorem dX7_sortsBy_27 : decode cX7_sortsBy 27 = .ok (.iload 4, 2) := by decide +kernel
theorem dX7_sortsBy_29 : decode cX7_sortsBy 29 = .ok (.iastore, 1) := by decide +kernel
theorem dX7_sortsBy_30 : decode cX7_sortsBy 30 = .ok (.iload_n 3, 1) := by decide +kernel
theorem dX7_sortsBy_31 : decode cX7_sortsBy 31 = .ok (.aload_n 0, 1) := by decide +kernel
theorem dX7_sortsBy_32 : decode cX7_sortsBy 32 = .ok (.invokevirtual 277, 3) := by decide +kernel
theorem dX7_sortsBy_35 : decode cX7_sortsBy 35 = .ok (.ifCond .eq 10, 3) := by decide +kernel
theorem dX7_sortsBy_38 : decode cX7_sortsBy 38 = .ok (.iconst 1, 1) := by decide +kernel
theorem dX7_sortsBy_39 : decode cX7_sortsBy 39 = .ok (.iload 4, 2) := by decide +kernel
theorem dX7_sortsBy_41 : decode cX7_sortsBy 41 = .ok (.ishl, 1) := by decide +kernel
theorem dX7_sortsBy_42 : decode cX7_sortsBy 42 = .ok (.goto 4, 3) := by decide +kernel
theorem dX7_sortsBy_45 : decode cX7_sortsBy 45 = .ok (.iconst 0, 1) := by decide +kernel
theorem dX7_sortsBy_46 : decode cX7_sortsBy 46 = .ok (.ior, 1) := by decide +kernel
theorem dX7_sortsBy_47 : decode cX7_sortsBy 47 = .ok (.istore_n 3, 1) := by decide +kernel
theorem dX7_sortsBy_48 : decode cX7_sortsBy 48 = .ok (.iinc 4 1, 3) := by decide +kernel
theorem dX7_sortsBy_51 : decode cX7_sortsBy 51 = .ok (.goto (-35), 3) := by decide +kernel
theorem dX7_sortsBy_54 : decode cX7_sortsBy 54 = .ok (.aload_n 0, 1) := by decide +kernel
theorem dX7_sortsBy_55 : decode cX7_sortsBy 55 = .ok (.getfield 16, 3) := by decide +kernel
theorem dX7_sortsBy_58 : decode cX7_sortsBy 58 = .ok (.iload_n 1, 1) := by decide +kernel
theorem dX7_sortsBy_59 : decode cX7_sortsBy 59 = .ok (.iload_n 2, 1) := by decide +kernel
theorem dX7_sortsBy_60 : decode cX7_sortsBy 60 = .ok (.iastore, 1) := by decide +kernel
theorem dX7_sortsBy_61 : decode cX7_sortsBy 61 = .ok (.iload_n 3, 1) := by decide +kernel
theorem dX7_sortsBy_62 : decode cX7_sortsBy 62 = .ok (.ireturn, 1) := by decide +kernel
theorem dX7_longBy_0 : decode cX7_longBy 0 = .ok (.aload_n 0, 1) := by decide +kernel
theorem dX7_longBy_1 : decode cX7_longBy 1 = .ok (.invokevirtual 205, 3) := by decide +kernel
theorem dX7_longBy_4 : decode cX7_longBy 4 = .ok (.aload_n 0, 1) := by decide +kernel
theorem dX7_longBy_5 : decode cX7_longBy 5 = .ok (.getfield 19, 3) := by decide +kernel
theorem dX7_longBy_8 : decode cX7_longBy 8 = .ok (.iload_n 1, 1) := by decide +kernel
theorem dX7_longBy_9 : decode cX7_longBy 9 = .ok (.iaload, 1) := by decide +kernel
theorem dX7_longBy_10 : decode cX7_longBy 10 = .ok (.istore_n 2, 1) := by decide +kernel
theorem dX7_longBy_11 : decode cX7_longBy 11 = .ok (.iconst 0, 1) := by decide +kernel
theorem dX7_longBy_12 : decode cX7_longBy 12 = .ok (.istore_n 3, 1) := by decide +kernel
theorem dX7_longBy_13 : decode cX7_longBy 13 = .ok (.iconst 1, 1) := by decide +kernel
theorem dX7_longBy_14 : decode cX7_longBy 14 = .ok (.istore 4, 2) := by decide +kernel
theorem dX7_longBy_16 : decode cX7_longBy 16 = .ok (.iload 4, 2) := by decide +kernel
theorem dX7_longBy_18 : decode cX7_longBy 18 = .ok (.bipush 10, 2) := by decide +kernel
theorem dX7_longBy_20 : decode cX7_longBy 20 = .ok (.if_icmp .ge 71, 3) := by decide +kernel
theorem dX7_longBy_23 : decode cX7_longBy 23 = .ok (.aload_n 0, 1) := by decide +kernel
theorem dX7_longBy_24 : decode cX7_longBy 24 = .ok (.getfield 19, 3) := by decide +kernel
theorem dX7_longBy_27 : decode cX7_longBy 27 = .ok (.iload_n 1, 1) := by decide +kernel
theorem dX7_longBy_28 : decode cX7_longBy 28 = .ok (.iload 4, 2) := by decide +kernel
theorem dX7_longBy_30 : decode cX7_longBy 30 = .ok (.iastore, 1) := by decide +kernel
theorem dX7_longBy_31 : decode cX7_longBy 31 = .ok (.iload_n 3, 1) := by decide +kernel
theorem dX7_longBy_32 : decode cX7_longBy 32 = .ok (.aload_n 0, 1) := by decide +kernel
theorem dX7_longBy_33 : decode cX7_longBy 33 = .ok (.invokevirtual 277, 3) := by decide +kernel
theorem dX7_longBy_36 : decode cX7_longBy 36 = .ok (.ifCond .eq 10, 3) := by decide +kernel
theorem dX7_longBy_39 : decode cX7_longBy 39 = .ok (.iconst 1, 1) := by decide +kernel
theorem dX7_longBy_40 : decode cX7_longBy 40 = .ok (.iload 4, 2) := by decide +kernel
theorem dX7_longBy_42 : decode cX7_longBy 42 = .ok (.ishl, 1) := by decide +kernel
theorem dX7_longBy_43 : decode cX7_longBy 43 = .ok (.goto 4, 3) := by decide +kernel
theorem dX7_longBy_46 : decode cX7_longBy 46 = .ok (.iconst 0, 1) := by decide +kernel
theorem dX7_longBy_47 : decode cX7_longBy 47 = .ok (.ior, 1) := by decide +kernel
theorem dX7_longBy_48 : decode cX7_longBy 48 = .ok (.istore_n 3, 1) := by decide +kernel
theorem dX7_longBy_49 : decode cX7_longBy 49 = .ok (.iconst 0, 1) := by decide +kernel
theorem dX7_longBy_50 : decode cX7_longBy 50 = .ok (.istore 5, 2) := by decide +kernel
theorem dX7_longBy_52 : decode cX7_longBy 52 = .ok (.iload 5, 2) := by decide +kernel
theorem dX7_longBy_54 : decode cX7_longBy 54 = .ok (.bipush 24, 2) := by decide +kernel
theorem dX7_longBy_56 : decode cX7_longBy 56 = .ok (.if_icmp .ge 29, 3) := by decide +kernel
theorem dX7_longBy_59 : decode cX7_longBy 59 = .ok (.aload_n 0, 1) := by decide +kernel
theorem dX7_longBy_60 : decode cX7_longBy 60 = .ok (.getfield 79, 3) := by decide +kernel
theorem dX7_longBy_63 : decode cX7_longBy 63 = .ok (.bipush 24, 2) := by decide +kernel
theorem dX7_longBy_65 : decode cX7_longBy 65 = .ok (.iload 4, 2) := by decide +kernel
theorem dX7_longBy_67 : decode cX7_longBy 67 = .ok (.imul, 1) := by decide +kernel
theorem dX7_longBy_68 : decode cX7_longBy 68 = .ok (.iload 5, 2) := by decide +kernel
theorem dX7_longBy_70 : decode cX7_longBy 70 = .ok (.iadd, 1) := by decide +kernel
theorem dX7_longBy_71 : decode cX7_longBy 71 = .ok (.aload_n 0, 1) := by decide +kernel
theorem dX7_longBy_72 : decode cX7_longBy 72 = .ok (.getfield 67, 3) := by decide +kernel
theorem dX7_longBy_75 : decode cX7_longBy 75 = .ok (.iload 5, 2) := by decide +kernel
theorem dX7_longBy_77 : decode cX7_longBy 77 = .ok (.iaload, 1) := by decide +kernel
theorem dX7_longBy_78 : decode cX7_longBy 78 = .ok (.iastore, 1) := by decide +kernel
theorem dX7_longBy_79 : decode cX7_longBy 79 = .ok (.iinc 5 1, 3) := by decide +kernel
theorem dX7_longBy_82 : decode cX7_longBy 82 = .ok (.goto (-30), 3) := by decide +kernel
theorem dX7_longBy_85 : decode cX7_longBy 85 = .ok (.iinc 4 1, 3) := by decide +kernel
theorem dX7_longBy_88 : decode cX7_longBy 88 = .ok (.goto (-72), 3) := by decide +kernel
theorem dX7_longBy_91 : decode cX7_longBy 91 = .ok (.aload_n 0, 1) := by decide +kernel
theorem dX7_longBy_92 : decode cX7_longBy 92 = .ok (.getfield 19, 3) := by decide +kernel
theorem dX7_longBy_95 : decode cX7_longBy 95 = .ok (.iload_n 1, 1) := by decide +kernel
theorem dX7_longBy_96 : decode cX7_longBy 96 = .ok (.iload_n 2, 1) := by decide +kernel
theorem dX7_longBy_97 : decode cX7_longBy 97 = .ok (.iastore, 1) := by decide +kernel
theorem dX7_longBy_98 : decode cX7_longBy 98 = .ok (.iload_n 3, 1) := by decide +kernel
theorem dX7_longBy_99 : decode cX7_longBy 99 = .ok (.ireturn, 1) := by decide +kernel
theorem dX7_was_0 : decode cX7_was 0 = .ok (.aload_n 0, 1) := by decide +kernel
theorem dX7_was_1 : decode cX7_was 1 = .ok (.iload_n 1, 1) := by decide +kernel
theorem dX7_was_2 : decode cX7_was 2 = .ok (.invokevirtual 138, 3) := by decide +kernel
theorem dX7_was_5 : decode cX7_was 5 = .ok (.ifCond .eq 30, 3) := by decide +kernel
theorem dX7_was_8 : decode cX7_was 8 = .ok (.iload_n 2, 1) := by decide +kernel
theorem dX7_was_9 : decode cX7_was 9 = .ok (.invokestatic 231, 3) := by decide +kernel
theorem dX7_was_12 : decode cX7_was 12 = .ok (.ifCond .eq 23, 3) := by decide +kernel
theorem dX7_was_15 : decode cX7_was 15 = .ok (.iload_n 2, 1) := by decide +kernel
theorem dX7_was_16 : decode cX7_was 16 = .ok (.ifCond .ne 11, 3) := by decide +kernel
theorem dX7_was_19 : decode cX7_was 19 = .ok (.aload_n 0, 1) := by decide +kernel
theorem dX7_was_20 : decode cX7_was 20 = .ok (.iload_n 1, 1) := by decide +kernel
theorem dX7_was_21 : decode cX7_was 21 = .ok (.invokevirtual 284, 3) := by decide +kernel
theorem dX7_was_24 : decode cX7_was 24 = .ok (.goto 13, 3) := by decide +kernel
theorem dX7_was_27 : decode cX7_was 27 = .ok (.aload_n 0, 1) := by decide +kernel
theorem dX7_was_28 : decode cX7_was 28 = .ok (.iload_n 1, 1) := by decide +kernel
theorem dX7_was_29 : decode cX7_was 29 = .ok (.invokevirtual 287, 3) := by decide +kernel
theorem dX7_was_32 : decode cX7_was 32 = .ok (.goto 5, 3) := by decide +kernel
theorem dX7_was_35 : decode cX7_was 35 = .ok (.bipush (-2), 2) := by decide +kernel
theorem dX7_was_37 : decode cX7_was 37 = .ok (.ireturn, 1) := by decide +kernel
theorem dX7_askOf_0 : decode cX7_askOf 0 = .ok (.aload_n 0, 1) := by decide +kernel
theorem dX7_askOf_1 : decode cX7_askOf 1 = .ok (.iload_n 1, 1) := by decide +kernel
theorem dX7_askOf_2 : decode cX7_askOf 2 = .ok (.invokevirtual 287, 3) := by decide +kernel
theorem dX7_askOf_5 : decode cX7_askOf 5 = .ok (.istore_n 2, 1) := by decide +kernel
theorem dX7_askOf_6 : decode cX7_askOf 6 = .ok (.iconst (-1), 1) := by decide +kernel
theorem dX7_askOf_7 : decode cX7_askOf 7 = .ok (.istore_n 3, 1) := by decide +kernel
theorem dX7_askOf_8 : decode cX7_askOf 8 = .ok (.iconst 0, 1) := by decide +kernel
theorem dX7_askOf_9 : decode cX7_askOf 9 = .ok (.istore 4, 2) := by decide +kernel
theorem dX7_askOf_11 : decode cX7_askOf 11 = .ok (.iconst 0, 1) := by decide +kernel
theorem dX7_askOf_12 : decode cX7_askOf 12 = .ok (.istore 5, 2) := by decide +kernel
theorem dX7_askOf_14 : decode cX7_askOf 14 = .ok (.iload 5, 2) := by decide +kernel
theorem dX7_askOf_16 : decode cX7_askOf 16 = .ok (.bipush 24, 2) := by decide +kernel
theorem dX7_askOf_18 : decode cX7_askOf 18 = .ok (.if_icmp .ge 165, 3) := by decide +kernel
theorem dX7_askOf_21 : decode cX7_askOf 21 = .ok (.iconst 0, 1) := by decide +kernel
theorem dX7_askOf_22 : decode cX7_askOf 22 = .ok (.istore 6, 2) := by decide +kernel
theorem dX7_askOf_24 : decode cX7_askOf 24 = .ok (.iconst 1, 1) := by decide +kernel
theorem dX7_askOf_25 : decode cX7_askOf 25 = .ok (.istore 7, 2) := by decide +kernel
theorem dX7_askOf_27 : decode cX7_askOf 27 = .ok (.iload 7, 2) := by decide +kernel
theorem dX7_askOf_29 : decode cX7_askOf 29 = .ok (.bipush 10, 2) := by decide +kernel
theorem dX7_askOf_31 : decode cX7_askOf 31 = .ok (.if_icmp .ge 101, 3) := by decide +kernel
theorem dX7_askOf_34 : decode cX7_askOf 34 = .ok (.iconst 0, 1) := by decide +kernel
theorem dX7_askOf_35 : decode cX7_askOf 35 = .ok (.istore 8, 2) := by decide +kernel
theorem dX7_askOf_37 : decode cX7_askOf 37 = .ok (.iconst 1, 1) := by decide +kernel
theorem dX7_askOf_38 : decode cX7_askOf 38 = .ok (.istore 9, 2) := by decide +kernel
theorem dX7_askOf_40 : decode cX7_askOf 40 = .ok (.iload 9, 2) := by decide +kernel
theorem dX7_askOf_42 : decode cX7_askOf 42 = .ok (.bipush 10, 2) := by decide +kernel
theorem dX7_askOf_44 : decode cX7_askOf 44 = .ok (.if_icmp .ge 66, 3) := by decide +kernel
theorem dX7_askOf_47 : decode cX7_askOf 47 = .ok (.iload 8, 2) := by decide +kernel
theorem dX7_askOf_49 : decode cX7_askOf 49 = .ok (.iload_n 2, 1) := by decide +kernel
theorem dX7_askOf_50 : decode cX7_askOf 50 = .ok (.iload 7, 2) := by decide +kernel
theorem dX7_askOf_52 : decode cX7_askOf 52 = .ok (.invokestatic 175, 3) := by decide +kernel
theorem dX7_askOf_55 : decode cX7_askOf 55 = .ok (.ifCond .eq 45, 3) := by decide +kernel
theorem dX7_askOf_58 : decode cX7_askOf 58 = .ok (.iload_n 2, 1) := by decide +kernel
theorem dX7_askOf_59 : decode cX7_askOf 59 = .ok (.iload 9, 2) := by decide +kernel
theorem dX7_askOf_61 : decode cX7_askOf 61 = .ok (.invokestatic 175, 3) := by decide +kernel
theorem dX7_askOf_64 : decode cX7_askOf 64 = .ok (.ifCond .eq 36, 3) := by decide +kernel
theorem dX7_askOf_67 : decode cX7_askOf 67 = .ok (.aload_n 0, 1) := by decide +kernel
theorem dX7_askOf_68 : decode cX7_askOf 68 = .ok (.getfield 79, 3) := by decide +kernel
theorem dX7_askOf_71 : decode cX7_askOf 71 = .ok (.bipush 24, 2) := by decide +kernel
theorem dX7_askOf_73 : decode cX7_askOf 73 = .ok (.iload 7, 2) := by decide +kernel
theorem dX7_askOf_75 : decode cX7_askOf 75 = .ok (.imul, 1) := by decide +kernel
theorem dX7_askOf_76 : decode cX7_askOf 76 = .ok (.iload 5, 2) := by decide +kernel
theorem dX7_askOf_78 : decode cX7_askOf 78 = .ok (.iadd, 1) := by decide +kernel
theorem dX7_askOf_79 : decode cX7_askOf 79 = .ok (.iaload, 1) := by decide +kernel
theorem dX7_askOf_80 : decode cX7_askOf 80 = .ok (.aload_n 0, 1) := by decide +kernel
theorem dX7_askOf_81 : decode cX7_askOf 81 = .ok (.getfield 79, 3) := by decide +kernel
theorem dX7_askOf_84 : decode cX7_askOf 84 = .ok (.bipush 24, 2) := by decide +kernel
theorem dX7_askOf_86 : decode cX7_askOf 86 = .ok (.iload 9, 2) := by decide +kernel
theorem dX7_askOf_88 : decode cX7_askOf 88 = .ok (.imul, 1) := by decide +kernel
theorem dX7_askOf_89 : decode cX7_askOf 89 = .ok (.iload 5, 2) := by decide +kernel
theorem dX7_askOf_91 : decode cX7_askOf 91 = .ok (.iadd, 1) := by decide +kernel
theorem dX7_askOf_92 : decode cX7_askOf 92 = .ok (.iaload, 1) := by decide +kernel
theorem dX7_askOf_93 : decode cX7_askOf 93 = .ok (.if_icmp .ne 7, 3) := by decide +kernel
theorem dX7_askOf_96 : decode cX7_askOf 96 = .ok (.iconst 1, 1) := by decide +kernel
theorem dX7_askOf_97 : decode cX7_askOf 97 = .ok (.goto 4, 3) := by decide +kernel
theorem dX7_askOf_100 : decode cX7_askOf 100 = .ok (.iconst 0, 1) := by decide +kernel
theorem dX7_askOf_101 : decode cX7_askOf 101 = .ok (.iadd, 1) := by decide +kernel
theorem dX7_askOf_102 : decode cX7_askOf 102 = .ok (.istore 8, 2) := by decide +kernel
theorem dX7_askOf_104 : decode cX7_askOf 104 = .ok (.iinc 9 1, 3) := by decide +kernel
theorem dX7_askOf_107 : decode cX7_askOf 107 = .ok (.goto (-67), 3) := by decide +kernel
theorem dX7_askOf_110 : decode cX7_askOf 110 = .ok (.iload 8, 2) := by decide +kernel
theorem dX7_askOf_112 : decode cX7_askOf 112 = .ok (.iload 6, 2) := by decide +kernel
theorem dX7_askOf_114 : decode cX7_askOf 114 = .ok (.if_icmp .le 8, 3) := by decide +kernel
theorem dX7_askOf_117 : decode cX7_askOf 117 = .ok (.iload 8, 2) := by decide +kernel
theorem dX7_askOf_119 : decode cX7_askOf 119 = .ok (.goto 5, 3) := by decide +kernel
theorem dX7_askOf_122 : decode cX7_askOf 122 = .ok (.iload 6, 2) := by decide +kernel
theorem dX7_askOf_124 : decode cX7_askOf 124 = .ok (.istore 6, 2) := by decide +kernel
theorem dX7_askOf_126 : decode cX7_askOf 126 = .ok (.iinc 7 1, 3) := by decide +kernel
theorem dX7_askOf_129 : decode cX7_askOf 129 = .ok (.goto (-102), 3) := by decide +kernel
theorem dX7_askOf_132 : decode cX7_askOf 132 = .ok (.iload_n 3, 1) := by decide +kernel
theorem dX7_askOf_133 : decode cX7_askOf 133 = .ok (.iconst (-1), 1) := by decide +kernel
theorem dX7_askOf_134 : decode cX7_askOf 134 = .ok (.if_icmp .eq 10, 3) := by decide +kernel
theorem dX7_askOf_137 : decode cX7_askOf 137 = .ok (.iload 6, 2) := by decide +kernel
theorem dX7_askOf_139 : decode cX7_askOf 139 = .ok (.iload 4, 2) := by decide +kernel
theorem dX7_askOf_141 : decode cX7_askOf 141 = .ok (.if_icmp .ge 7, 3) := by decide +kernel
theorem dX7_askOf_144 : decode cX7_askOf 144 = .ok (.iconst 1, 1) := by decide +kernel
theorem dX7_askOf_145 : decode cX7_askOf 145 = .ok (.goto 4, 3) := by decide +kernel
theorem dX7_askOf_148 : decode cX7_askOf 148 = .ok (.iconst 0, 1) := by decide +kernel
theorem dX7_askOf_149 : decode cX7_askOf 149 = .ok (.istore 7, 2) := by decide +kernel
theorem dX7_askOf_151 : decode cX7_askOf 151 = .ok (.iload 7, 2) := by decide +kernel
theorem dX7_askOf_153 : decode cX7_askOf 153 = .ok (.ifCond .eq 8, 3) := by decide +kernel
theorem dX7_askOf_156 : decode cX7_askOf 156 = .ok (.iload 5, 2) := by decide +kernel
theorem dX7_askOf_158 : decode cX7_askOf 158 = .ok (.goto 4, 3) := by decide +kernel
theorem dX7_askOf_161 : decode cX7_askOf 161 = .ok (.iload_n 3, 1) := by decide +kernel
theorem dX7_askOf_162 : decode cX7_askOf 162 = .ok (.istore_n 3, 1) := by decide +kernel
theorem dX7_askOf_163 : decode cX7_askOf 163 = .ok (.iload 7, 2) := by decide +kernel
theorem dX7_askOf_165 : decode cX7_askOf 165 = .ok (.ifCond .eq 8, 3) := by decide +kernel
theorem dX7_askOf_168 : decode cX7_askOf 168 = .ok (.iload 6, 2) := by decide +kernel
theorem dX7_askOf_170 : decode cX7_askOf 170 = .ok (.goto 5, 3) := by decide +kernel
theorem dX7_askOf_173 : decode cX7_askOf 173 = .ok (.iload 4, 2) := by decide +kernel
theorem dX7_askOf_175 : decode cX7_askOf 175 = .ok (.istore 4, 2) := by decide +kernel
theorem dX7_askOf_177 : decode cX7_askOf 177 = .ok (.iinc 5 1, 3) := by decide +kernel
theorem dX7_askOf_180 : decode cX7_askOf 180 = .ok (.goto (-166), 3) := by decide +kernel
theorem dX7_askOf_183 : decode cX7_askOf 183 = .ok (.iload_n 3, 1) := by decide +kernel
theorem dX7_askOf_184 : decode cX7_askOf 184 = .ok (.ireturn, 1) := by decide +kernel
theorem dX7_ask_0 : decode cX7_ask 0 = .ok (.aload_n 0, 1) := by decide +kernel
theorem dX7_ask_1 : decode cX7_ask 1 = .ok (.iload_n 1, 1) := by decide +kernel
theorem dX7_ask_2 : decode cX7_ask 2 = .ok (.invokevirtual 138, 3) := by decide +kernel
theorem dX7_ask_5 : decode cX7_ask 5 = .ok (.ifCond .eq 11, 3) := by decide +kernel
theorem dX7_ask_8 : decode cX7_ask 8 = .ok (.aload_n 0, 1) := by decide +kernel
theorem dX7_ask_9 : decode cX7_ask 9 = .ok (.iload_n 1, 1) := by decide +kernel
theorem dX7_ask_10 : decode cX7_ask 10 = .ok (.invokevirtual 290, 3) := by decide +kernel
theorem dX7_ask_13 : decode cX7_ask 13 = .ok (.goto 5, 3) := by decide +kernel
theorem dX7_ask_16 : decode cX7_ask 16 = .ok (.bipush (-2), 2) := by decide +kernel
theorem dX7_ask_18 : decode cX7_ask 18 = .ok (.ireturn, 1) := by decide +kernel
theorem dX7_chanceOf_0 : decode cX7_chanceOf 0 = .ok (.aload_n 0, 1) := by decide +kernel
theorem dX7_chanceOf_1 : decode cX7_chanceOf 1 = .ok (.invokevirtual 205, 3) := by decide +kernel
theorem dX7_chanceOf_4 : decode cX7_chanceOf 4 = .ok (.lconst 0, 1) := by decide +kernel
theorem dX7_chanceOf_5 : decode cX7_chanceOf 5 = .ok (.lstore 4, 2) := by decide +kernel
theorem dX7_chanceOf_7 : decode cX7_chanceOf 7 = .ok (.iconst 0, 1) := by decide +kernel
theorem dX7_chanceOf_8 : decode cX7_chanceOf 8 = .ok (.istore 6, 2) := by decide +kernel
theorem dX7_chanceOf_10 : decode cX7_chanceOf 10 = .ok (.iload 6, 2) := by decide +kernel
theorem dX7_chanceOf_12 : decode cX7_chanceOf 12 = .ok (.iconst 1, 1) := by decide +kernel
theorem dX7_chanceOf_13 : decode cX7_chanceOf 13 = .ok (.aload_n 0, 1) := by decide +kernel
theorem dX7_chanceOf_14 : decode cX7_chanceOf 14 = .ok (.getfield 153, 3) := by decide +kernel
theorem dX7_chanceOf_17 : decode cX7_chanceOf 17 = .ok (.ishl, 1) := by decide +kernel
theorem dX7_chanceOf_18 : decode cX7_chanceOf 18 = .ok (.if_icmp .ge 93, 3) := by decide +kernel
theorem dX7_chanceOf_21 : decode cX7_chanceOf 21 = .ok (.lconst 1, 1) := by decide +kernel
theorem dX7_chanceOf_22 : decode cX7_chanceOf 22 = .ok (.lstore 7, 2) := by decide +kernel
theorem dX7_chanceOf_24 : decode cX7_chanceOf 24 = .ok (.iconst 0, 1) := by decide +kernel
theorem dX7_chanceOf_25 : decode cX7_chanceOf 25 = .ok (.istore 9, 2) := by decide +kernel
theorem dX7_chanceOf_27 : decode cX7_chanceOf 27 = .ok (.iload 9, 2) := by decide +kernel
theorem dX7_chanceOf_29 : decode cX7_chanceOf 29 = .ok (.aload_n 0, 1) := by decide +kernel
theorem dX7_chanceOf_30 : decode cX7_chanceOf 30 = .ok (.getfield 153, 3) := by decide +kernel
theorem dX7_chanceOf_33 : decode cX7_chanceOf 33 = .ok (.if_icmp .ge 34, 3) := by decide +kernel
theorem dX7_chanceOf_36 : decode cX7_chanceOf 36 = .ok (.lload 7, 2) := by decide +kernel
theorem dX7_chanceOf_38 : decode cX7_chanceOf 38 = .ok (.iload 6, 2) := by decide +kernel
theorem dX7_chanceOf_40 : decode cX7_chanceOf 40 = .ok (.iload 9, 2) := by decide +kernel
theorem dX7_chanceOf_42 : decode cX7_chanceOf 42 = .ok (.invokestatic 175, 3) := by decide +kernel
theorem dX7_chanceOf_45 : decode cX7_chanceOf 45 = .ok (.ifCond .eq 11, 3) := by decide +kernel
theorem dX7_chanceOf_48 : decode cX7_chanceOf 48 = .ok (.bipush 16, 2) := by decide +kernel
theorem dX7_chanceOf_50 : decode cX7_chanceOf 50 = .ok (.iload_n 1, 1) := by decide +kernel
theorem dX7_chanceOf_51 : decode cX7_chanceOf 51 = .ok (.isub, 1) := by decide +kernel
theorem dX7_chanceOf_52 : decode cX7_chanceOf 52 = .ok (.i2l, 1) := by decide +kernel
theorem dX7_chanceOf_53 : decode cX7_chanceOf 53 = .ok (.goto 5, 3) := by decide +kernel
theorem dX7_chanceOf_56 : decode cX7_chanceOf 56 = .ok (.iload_n 1, 1) := by decide +kernel
theorem dX7_chanceOf_57 : decode cX7_chanceOf 57 = .ok (.i2l, 1) := by decide +kernel
theorem dX7_chanceOf_58 : decode cX7_chanceOf 58 = .ok (.lmul, 1) := by decide +kernel
theorem dX7_chanceOf_59 : decode cX7_chanceOf 59 = .ok (.lstore 7, 2) := by decide +kernel
theorem dX7_chanceOf_61 : decode cX7_chanceOf 61 = .ok (.iinc 9 1, 3) := by decide +kernel
theorem dX7_chanceOf_64 : decode cX7_chanceOf 64 = .ok (.goto (-37), 3) := by decide +kernel
theorem dX7_chanceOf_67 : decode cX7_chanceOf 67 = .ok (.lload 7, 2) := by decide +kernel
theorem dX7_chanceOf_69 : decode cX7_chanceOf 69 = .ok (.lconst 0, 1) := by decide +kernel
theorem dX7_chanceOf_70 : decode cX7_chanceOf 70 = .ok (.lcmp, 1) := by decide +kernel
theorem dX7_chanceOf_71 : decode cX7_chanceOf 71 = .ok (.ifCond .le 34, 3) := by decide +kernel
theorem dX7_chanceOf_74 : decode cX7_chanceOf 74 = .ok (.aload_n 0, 1) := by decide +kernel
theorem dX7_chanceOf_75 : decode cX7_chanceOf 75 = .ok (.iload 6, 2) := by decide +kernel
theorem dX7_chanceOf_77 : decode cX7_chanceOf 77 = .ok (.putfield 168, 3) := by decide +kernel
theorem dX7_chanceOf_80 : decode cX7_chanceOf 80 = .ok (.aload_n 0, 1) := by decide +kernel
theorem dX7_chanceOf_81 : decode cX7_chanceOf 81 = .ok (.invokevirtual 208, 3) := by decide +kernel
theorem dX7_chanceOf_84 : decode cX7_chanceOf 84 = .ok (.lload 4, 2) := by decide +kernel
theorem dX7_chanceOf_86 : decode cX7_chanceOf 86 = .ok (.aload_n 0, 1) := by decide +kernel
theorem dX7_chanceOf_87 : decode cX7_chanceOf 87 = .ok (.getfield 55, 3) := by decide +kernel
theorem dX7_chanceOf_90 : decode cX7_chanceOf 90 = .ok (.iload_n 2, 1) := by decide +kernel
theorem dX7_chanceOf_91 : decode cX7_chanceOf 91 = .ok (.iaload, 1) := by decide +kernel
theorem dX7_chanceOf_92 : decode cX7_chanceOf 92 = .ok (.iconst (-1), 1) := by decide +kernel
theorem dX7_chanceOf_93 : decode cX7_chanceOf 93 = .ok (.if_icmp .eq 8, 3) := by decide +kernel
theorem dX7_chanceOf_96 : decode cX7_chanceOf 96 = .ok (.lload 7, 2) := by decide +kernel
theorem dX7_chanceOf_98 : decode cX7_chanceOf 98 = .ok (.goto 4, 3) := by decide +kernel
theorem dX7_chanceOf_101 : decode cX7_chanceOf 101 = .ok (.lconst 0, 1) := by decide +kernel
theorem dX7_chanceOf_102 : decode cX7_chanceOf 102 = .ok (.ladd, 1) := by decide +kernel
theorem dX7_chanceOf_103 : decode cX7_chanceOf 103 = .ok (.lstore 4, 2) := by decide +kernel
theorem dX7_chanceOf_105 : decode cX7_chanceOf 105 = .ok (.iinc 6 1, 3) := by decide +kernel
theorem dX7_chanceOf_108 : decode cX7_chanceOf 108 = .ok (.goto (-98), 3) := by decide +kernel
theorem dX7_chanceOf_111 : decode cX7_chanceOf 111 = .ok (.lload 4, 2) := by decide +kernel
theorem dX7_chanceOf_113 : decode cX7_chanceOf 113 = .ok (.lconst 1, 1) := by decide +kernel
theorem dX7_chanceOf_114 : decode cX7_chanceOf 114 = .ok (.iconst 4, 1) := by decide +kernel
theorem dX7_chanceOf_115 : decode cX7_chanceOf 115 = .ok (.aload_n 0, 1) := by decide +kernel
theorem dX7_chanceOf_116 : decode cX7_chanceOf 116 = .ok (.getfield 153, 3) := by decide +kernel
theorem dX7_chanceOf_119 : decode cX7_chanceOf 119 = .ok (.imul, 1) := by decide +kernel
theorem dX7_chanceOf_120 : decode cX7_chanceOf 120 = .ok (.lshl, 1) := by decide +kernel
theorem dX7_chanceOf_121 : decode cX7_chanceOf 121 = .ok (.iload_n 3, 1) := by decide +kernel
theorem dX7_chanceOf_122 : decode cX7_chanceOf 122 = .ok (.invokestatic 293, 3) := by decide +kernel
theorem dX7_chanceOf_125 : decode cX7_chanceOf 125 = .ok (.lreturn, 1) := by decide +kernel
theorem dX7_chance_0 : decode cX7_chance 0 = .ok (.iload_n 1, 1) := by decide +kernel
theorem dX7_chance_1 : decode cX7_chance 1 = .ok (.iconst 0, 1) := by decide +kernel
theorem dX7_chance_2 : decode cX7_chance 2 = .ok (.bipush 16, 2) := by decide +kernel
theorem dX7_chance_4 : decode cX7_chance 4 = .ok (.invokestatic 100, 3) := by decide +kernel
theorem dX7_chance_7 : decode cX7_chance 7 = .ok (.ifCond .eq 28, 3) := by decide +kernel
theorem dX7_chance_10 : decode cX7_chance 10 = .ok (.aload_n 0, 1) := by decide +kernel
theorem dX7_chance_11 : decode cX7_chance 11 = .ok (.iload_n 2, 1) := by decide +kernel
theorem dX7_chance_12 : decode cX7_chance 12 = .ok (.invokevirtual 138, 3) := by decide +kernel
theorem dX7_chance_15 : decode cX7_chance 15 = .ok (.ifCond .eq 20, 3) := by decide +kernel
theorem dX7_chance_18 : decode cX7_chance 18 = .ok (.iload_n 3, 1) := by decide +kernel
theorem dX7_chance_19 : decode cX7_chance 19 = .ok (.invokestatic 231, 3) := by decide +kernel
theorem dX7_chance_22 : decode cX7_chance 22 = .ok (.ifCond .eq 13, 3) := by decide +kernel
theorem dX7_chance_25 : decode cX7_chance 25 = .ok (.aload_n 0, 1) := by decide +kernel
theorem dX7_chance_26 : decode cX7_chance 26 = .ok (.iload_n 1, 1) := by decide +kernel
theorem dX7_chance_27 : decode cX7_chance 27 = .ok (.iload_n 2, 1) := by decide +kernel
theorem dX7_chance_28 : decode cX7_chance 28 = .ok (.iload_n 3, 1) := by decide +kernel
theorem dX7_chance_29 : decode cX7_chance 29 = .ok (.invokevirtual 297, 3) := by decide +kernel
theorem dX7_chance_32 : decode cX7_chance 32 = .ok (.goto 8, 3) := by decide +kernel
theorem dX7_chance_35 : decode cX7_chance 35 = .ok (.bipush (-2), 2) := by decide +kernel
theorem dX7_chance_37 : decode cX7_chance 37 = .ok (.invokestatic 301, 3) := by decide +kernel
theorem dX7_chance_40 : decode cX7_chance 40 = .ok (.lreturn, 1) := by decide +kernel
theorem dX7_yearsOf_0 : decode cX7_yearsOf 0 = .ok (.aload_n 0, 1) := by decide +kernel
theorem dX7_yearsOf_1 : decode cX7_yearsOf 1 = .ok (.invokevirtual 205, 3) := by decide +kernel
theorem dX7_yearsOf_4 : decode cX7_yearsOf 4 = .ok (.iload_n 1, 1) := by decide +kernel
theorem dX7_yearsOf_5 : decode cX7_yearsOf 5 = .ok (.istore 4, 2) := by decide +kernel
theorem dX7_yearsOf_7 : decode cX7_yearsOf 7 = .ok (.aload_n 0, 1) := by decide +kernel
theorem dX7_yearsOf_8 : decode cX7_yearsOf 8 = .ok (.aload_n 0, 1) := by decide +kernel
theorem dX7_yearsOf_9 : decode cX7_yearsOf 9 = .ok (.getfield 116, 3) := by decide +kernel
theorem dX7_yearsOf_12 : decode cX7_yearsOf 12 = .ok (.ifCond .ne 7, 3) := by decide +kernel
theorem dX7_yearsOf_15 : decode cX7_yearsOf 15 = .ok (.iconst 0, 1) := by decide +kernel
theorem dX7_yearsOf_16 : decode cX7_yearsOf 16 = .ok (.goto 4, 3) := by decide +kernel
theorem dX7_yearsOf_19 : decode cX7_yearsOf 19 = .ok (.iload_n 2, 1) := by decide +kernel
theorem dX7_yearsOf_20 : decode cX7_yearsOf 20 = .ok (.putfield 165, 3) := by decide +kernel
theorem dX7_yearsOf_23 : decode cX7_yearsOf 23 = .ok (.iconst 0, 1) := by decide +kernel
theorem dX7_yearsOf_24 : decode cX7_yearsOf 24 = .ok (.istore 5, 2) := by decide +kernel
theorem dX7_yearsOf_26 : decode cX7_yearsOf 26 = .ok (.iload 5, 2) := by decide +kernel
theorem dX7_yearsOf_28 : decode cX7_yearsOf 28 = .ok (.aload_n 0, 1) := by decide +kernel
theorem dX7_yearsOf_29 : decode cX7_yearsOf 29 = .ok (.getfield 165, 3) := by decide +kernel
theorem dX7_yearsOf_32 : decode cX7_yearsOf 32 = .ok (.if_icmp .ge 65, 3) := by decide +kernel
theorem dX7_yearsOf_35 : decode cX7_yearsOf 35 = .ok (.ldc_w 305, 3) := by decide +kernel
theorem dX7_yearsOf_38 : decode cX7_yearsOf 38 = .ok (.iload 4, 2) := by decide +kernel
theorem dX7_yearsOf_40 : decode cX7_yearsOf 40 = .ok (.imul, 1) := by decide +kernel
theorem dX7_yearsOf_41 : decode cX7_yearsOf 41 = .ok (.sipush 12345, 3) := by decide +kernel
theorem dX7_yearsOf_44 : decode cX7_yearsOf 44 = .ok (.iadd, 1) := by decide +kernel
theorem dX7_yearsOf_45 : decode cX7_yearsOf 45 = .ok (.istore 4, 2) := by decide +kernel
theorem dX7_yearsOf_47 : decode cX7_yearsOf 47 = .ok (.aload_n 0, 1) := by decide +kernel
theorem dX7_yearsOf_48 : decode cX7_yearsOf 48 = .ok (.getfield 43, 3) := by decide +kernel
theorem dX7_yearsOf_51 : decode cX7_yearsOf 51 = .ok (.iload 5, 2) := by decide +kernel
theorem dX7_yearsOf_53 : decode cX7_yearsOf 53 = .ok (.iload 4, 2) := by decide +kernel
theorem dX7_yearsOf_55 : decode cX7_yearsOf 55 = .ok (.bipush 16, 2) := by decide +kernel
theorem dX7_yearsOf_57 : decode cX7_yearsOf 57 = .ok (.iushr, 1) := by decide +kernel
theorem dX7_yearsOf_58 : decode cX7_yearsOf 58 = .ok (.bipush 24, 2) := by decide +kernel
theorem dX7_yearsOf_60 : decode cX7_yearsOf 60 = .ok (.irem, 1) := by decide +kernel
theorem dX7_yearsOf_61 : decode cX7_yearsOf 61 = .ok (.iastore, 1) := by decide +kernel
theorem dX7_yearsOf_62 : decode cX7_yearsOf 62 = .ok (.ldc_w 305, 3) := by decide +kernel
theorem dX7_yearsOf_65 : decode cX7_yearsOf 65 = .ok (.iload 4, 2) := by decide +kernel
theorem dX7_yearsOf_67 : decode cX7_yearsOf 67 = .ok (.imul, 1) := by decide +kernel
theorem dX7_yearsOf_68 : decode cX7_yearsOf 68 = .ok (.sipush 12345, 3) := by decide +kernel
theorem dX7_yearsOf_71 : decode cX7_yearsOf 71 = .ok (.iadd, 1) := by decide +kernel
theorem dX7_yearsOf_72 : decode cX7_yearsOf 72 = .ok (.istore 4, 2) := by decide +kernel
theorem dX7_yearsOf_74 : decode cX7_yearsOf 74 = .ok (.aload_n 0, 1) := by decide +kernel
theorem dX7_yearsOf_75 : decode cX7_yearsOf 75 = .ok (.getfield 46, 3) := by decide +kernel
theorem dX7_yearsOf_78 : decode cX7_yearsOf 78 = .ok (.iload 5, 2) := by decide +kernel
theorem dX7_yearsOf_80 : decode cX7_yearsOf 80 = .ok (.iload 4, 2) := by decide +kernel
theorem dX7_yearsOf_82 : decode cX7_yearsOf 82 = .ok (.bipush 16, 2) := by decide +kernel
theorem dX7_yearsOf_84 : decode cX7_yearsOf 84 = .ok (.iushr, 1) := by decide +kernel
theorem dX7_yearsOf_85 : decode cX7_yearsOf 85 = .ok (.aload_n 0, 1) := by decide +kernel
theorem dX7_yearsOf_86 : decode cX7_yearsOf 86 = .ok (.getfield 116, 3) := by decide +kernel
theorem dX7_yearsOf_89 : decode cX7_yearsOf 89 = .ok (.irem, 1) := by decide +kernel
theorem dX7_yearsOf_90 : decode cX7_yearsOf 90 = .ok (.iastore, 1) := by decide +kernel
theorem dX7_yearsOf_91 : decode cX7_yearsOf 91 = .ok (.iinc 5 1, 3) := by decide +kernel
theorem dX7_yearsOf_94 : decode cX7_yearsOf 94 = .ok (.goto (-68), 3) := by decide +kernel
theorem dX7_yearsOf_97 : decode cX7_yearsOf 97 = .ok (.aload_n 0, 1) := by decide +kernel
theorem dX7_yearsOf_98 : decode cX7_yearsOf 98 = .ok (.invokevirtual 208, 3) := by decide +kernel
theorem dX7_yearsOf_101 : decode cX7_yearsOf 101 = .ok (.iload_n 3, 1) := by decide +kernel
theorem dX7_yearsOf_102 : decode cX7_yearsOf 102 = .ok (.ifCond .ne 10, 3) := by decide +kernel
theorem dX7_yearsOf_105 : decode cX7_yearsOf 105 = .ok (.aload_n 0, 1) := by decide +kernel
theorem dX7_yearsOf_106 : decode cX7_yearsOf 106 = .ok (.invokevirtual 256, 3) := by decide +kernel
theorem dX7_yearsOf_109 : decode cX7_yearsOf 109 = .ok (.goto 7, 3) := by decide +kernel
theorem dX7_yearsOf_112 : decode cX7_yearsOf 112 = .ok (.aload_n 0, 1) := by decide +kernel
theorem dX7_yearsOf_113 : decode cX7_yearsOf 113 = .ok (.invokevirtual 246, 3) := by decide +kernel
theorem dX7_yearsOf_116 : decode cX7_yearsOf 116 = .ok (.ireturn, 1) := by decide +kernel
theorem dX7_years_0 : decode cX7_years 0 = .ok (.iload_n 2, 1) := by decide +kernel
theorem dX7_years_1 : decode cX7_years 1 = .ok (.iconst 0, 1) := by decide +kernel
theorem dX7_years_2 : decode cX7_years 2 = .ok (.bipush 8, 2) := by decide +kernel
theorem dX7_years_4 : decode cX7_years 4 = .ok (.invokestatic 100, 3) := by decide +kernel
theorem dX7_years_7 : decode cX7_years 7 = .ok (.ifCond .eq 20, 3) := by decide +kernel
theorem dX7_years_10 : decode cX7_years 10 = .ok (.iload_n 3, 1) := by decide +kernel
theorem dX7_years_11 : decode cX7_years 11 = .ok (.invokestatic 231, 3) := by decide +kernel
theorem dX7_years_14 : decode cX7_years 14 = .ok (.ifCond .eq 13, 3) := by decide +kernel
theorem dX7_years_17 : decode cX7_years 17 = .ok (.aload_n 0, 1) := by decide +kernel
theorem dX7_years_18 : decode cX7_years 18 = .ok (.iload_n 1, 1) := by decide +kernel
theorem dX7_years_19 : decode cX7_years 19 = .ok (.iload_n 2, 1) := by decide +kernel
theorem dX7_years_20 : decode cX7_years 20 = .ok (.iload_n 3, 1) := by decide +kernel
theorem dX7_years_21 : decode cX7_years 21 = .ok (.invokevirtual 306, 3) := by decide +kernel
theorem dX7_years_24 : decode cX7_years 24 = .ok (.goto 5, 3) := by decide +kernel
theorem dX7_years_27 : decode cX7_years 27 = .ok (.ldc 226, 2) := by decide +kernel
theorem dX7_years_29 : decode cX7_years 29 = .ok (.ireturn, 1) := by decide +kernel
theorem dX7_meets_0 : decode cX7_meets 0 = .ok (.aload_n 0, 1) := by decide +kernel
theorem dX7_meets_1 : decode cX7_meets 1 = .ok (.iload_n 1, 1) := by decide +kernel
theorem dX7_meets_2 : decode cX7_meets 2 = .ok (.putfield 310, 3) := by decide +kernel
theorem dX7_meets_5 : decode cX7_meets 5 = .ok (.bipush (-10), 2) := by decide +kernel
theorem dX7_meets_7 : decode cX7_meets 7 = .ok (.iload_n 1, 1) := by decide +kernel
theorem dX7_meets_8 : decode cX7_meets 8 = .ok (.isub, 1) := by decide +kernel
theorem dX7_meets_9 : decode cX7_meets 9 = .ok (.ireturn, 1) := by decide +kernel
theorem dX7_isSheet_0 : decode cX7_isSheet 0 = .ok (.iload_n 0, 1) := by decide +kernel
theorem dX7_isSheet_1 : decode cX7_isSheet 1 = .ok (.iconst 0, 1) := by decide +kernel
theorem dX7_isSheet_2 : decode cX7_isSheet 2 = .ok (.iconst 3, 1) := by decide +kernel
theorem dX7_isSheet_3 : decode cX7_isSheet 3 = .ok (.invokestatic 100, 3) := by decide +kernel
theorem dX7_isSheet_6 : decode cX7_isSheet 6 = .ok (.ireturn, 1) := by decide +kernel
theorem dX7_sheet_0 : decode cX7_sheet 0 = .ok (.iload_n 1, 1) := by decide +kernel
theorem dX7_sheet_1 : decode cX7_sheet 1 = .ok (.invokestatic 156, 3) := by decide +kernel
theorem dX7_sheet_4 : decode cX7_sheet 4 = .ok (.ifCond .eq 18, 3) := by decide +kernel
theorem dX7_sheet_7 : decode cX7_sheet 7 = .ok (.iload_n 2, 1) := by decide +kernel
theorem dX7_sheet_8 : decode cX7_sheet 8 = .ok (.iconst 0, 1) := by decide +kernel
theorem dX7_sheet_9 : decode cX7_sheet 9 = .ok (.iconst 2, 1) := by decide +kernel
theorem dX7_sheet_10 : decode cX7_sheet 10 = .ok (.invokestatic 100, 3) := by decide +kernel
theorem dX7_sheet_13 : decode cX7_sheet 13 = .ok (.ifCond .eq 9, 3) := by decide +kernel
theorem dX7_sheet_16 : decode cX7_sheet 16 = .ok (.iload_n 3, 1) := by decide +kernel
theorem dX7_sheet_17 : decode cX7_sheet 17 = .ok (.bipush 60, 2) := by decide +kernel
theorem dX7_sheet_19 : decode cX7_sheet 19 = .ok (.if_icmp .le 6, 3) := by decide +kernel
theorem dX7_sheet_22 : decode cX7_sheet 22 = .ok (.bipush (-2), 2) := by decide +kernel
theorem dX7_sheet_24 : decode cX7_sheet 24 = .ok (.ireturn, 1) := by decide +kernel
theorem dX7_sheet_25 : decode cX7_sheet 25 = .ok (.iload_n 3, 1) := by decide +kernel
theorem dX7_sheet_26 : decode cX7_sheet 26 = .ok (.ifCond .ge 9, 3) := by decide +kernel
theorem dX7_sheet_29 : decode cX7_sheet 29 = .ok (.aload_n 0, 1) := by decide +kernel
theorem dX7_sheet_30 : decode cX7_sheet 30 = .ok (.iconst 5, 1) := by decide +kernel
theorem dX7_sheet_31 : decode cX7_sheet 31 = .ok (.invokevirtual 159, 3) := by decide +kernel
theorem dX7_sheet_34 : decode cX7_sheet 34 = .ok (.ireturn, 1) := by decide +kernel
theorem dX7_sheet_35 : decode cX7_sheet 35 = .ok (.aload_n 0, 1) := by decide +kernel
theorem dX7_sheet_36 : decode cX7_sheet 36 = .ok (.getfield 82, 3) := by decide +kernel
theorem dX7_sheet_39 : decode cX7_sheet 39 = .ok (.iload_n 1, 1) := by decide +kernel
theorem dX7_sheet_40 : decode cX7_sheet 40 = .ok (.iconst 1, 1) := by decide +kernel
theorem dX7_sheet_41 : decode cX7_sheet 41 = .ok (.bastore, 1) := by decide +kernel
theorem dX7_sheet_42 : decode cX7_sheet 42 = .ok (.aload_n 0, 1) := by decide +kernel
theorem dX7_sheet_43 : decode cX7_sheet 43 = .ok (.getfield 86, 3) := by decide +kernel
theorem dX7_sheet_46 : decode cX7_sheet 46 = .ok (.iload_n 1, 1) := by decide +kernel
theorem dX7_sheet_47 : decode cX7_sheet 47 = .ok (.iload_n 2, 1) := by decide +kernel
theorem dX7_sheet_48 : decode cX7_sheet 48 = .ok (.iastore, 1) := by decide +kernel
theorem dX7_sheet_49 : decode cX7_sheet 49 = .ok (.aload_n 0, 1) := by decide +kernel
theorem dX7_sheet_50 : decode cX7_sheet 50 = .ok (.getfield 89, 3) := by decide +kernel
theorem dX7_sheet_53 : decode cX7_sheet 53 = .ok (.iload_n 1, 1) := by decide +kernel
theorem dX7_sheet_54 : decode cX7_sheet 54 = .ok (.iload_n 3, 1) := by decide +kernel
theorem dX7_sheet_55 : decode cX7_sheet 55 = .ok (.iastore, 1) := by decide +kernel
theorem dX7_sheet_56 : decode cX7_sheet 56 = .ok (.iconst 0, 1) := by decide +kernel
theorem dX7_sheet_57 : decode cX7_sheet 57 = .ok (.istore 4, 2) := by decide +kernel
theorem dX7_sheet_59 : decode cX7_sheet 59 = .ok (.iload 4, 2) := by decide +kernel
theorem dX7_sheet_61 : decode cX7_sheet 61 = .ok (.bipush 60, 2) := by decide +kernel
theorem dX7_sheet_63 : decode cX7_sheet 63 = .ok (.if_icmp .ge 22, 3) := by decide +kernel
theorem dX7_sheet_66 : decode cX7_sheet 66 = .ok (.aload_n 0, 1) := by decide +kernel
theorem dX7_sheet_67 : decode cX7_sheet 67 = .ok (.getfield 92, 3) := by decide +kernel
theorem dX7_sheet_70 : decode cX7_sheet 70 = .ok (.bipush 60, 2) := by decide +kernel
theorem dX7_sheet_72 : decode cX7_sheet 72 = .ok (.iload_n 1, 1) := by decide +kernel
theorem dX7_sheet_73 : decode cX7_sheet 73 = .ok (.imul, 1) := by decide +kernel
theorem dX7_sheet_74 : decode cX7_sheet 74 = .ok (.iload 4, 2) := by decide +kernel
theorem dX7_sheet_76 : decode cX7_sheet 76 = .ok (.iadd, 1) := by decide +kernel
theorem dX7_sheet_77 : decode cX7_sheet 77 = .ok (.iconst 0, 1) := by decide +kernel
theorem dX7_sheet_78 : decode cX7_sheet 78 = .ok (.iastore, 1) := by decide +kernel
theorem dX7_sheet_79 : decode cX7_sheet 79 = .ok (.iinc 4 1, 3) := by decide +kernel
theorem dX7_sheet_82 : decode cX7_sheet 82 = .ok (.goto (-23), 3) := by decide +kernel
theorem dX7_sheet_85 : decode cX7_sheet 85 = .ok (.iload_n 3, 1) := by decide +kernel
theorem dX7_sheet_86 : decode cX7_sheet 86 = .ok (.ireturn, 1) := by decide +kernel
theorem dX7_lose_0 : decode cX7_lose 0 = .ok (.iload_n 1, 1) := by decide +kernel
theorem dX7_lose_1 : decode cX7_lose 1 = .ok (.invokestatic 156, 3) := by decide +kernel
theorem dX7_lose_4 : decode cX7_lose 4 = .ok (.ifCond .ne 6, 3) := by decide +kernel
theorem dX7_lose_7 : decode cX7_lose 7 = .ok (.bipush (-2), 2) := by decide +kernel
theorem dX7_lose_9 : decode cX7_lose 9 = .ok (.ireturn, 1) := by decide +kernel
theorem dX7_lose_10 : decode cX7_lose 10 = .ok (.aload_n 0, 1) := by decide +kernel
theorem dX7_lose_11 : decode cX7_lose 11 = .ok (.getfield 82, 3) := by decide +kernel
theorem dX7_lose_14 : decode cX7_lose 14 = .ok (.iload_n 1, 1) := by decide +kernel
theorem dX7_lose_15 : decode cX7_lose 15 = .ok (.baload, 1) := by decide +kernel
theorem dX7_lose_16 : decode cX7_lose 16 = .ok (.ifCond .ne 9, 3) := by decide +kernel
theorem dX7_lose_19 : decode cX7_lose 19 = .ok (.aload_n 0, 1) := by decide +kernel
theorem dX7_lose_20 : decode cX7_lose 20 = .ok (.iconst 1, 1) := by decide +kernel
theorem dX7_lose_21 : decode cX7_lose 21 = .ok (.invokevirtual 159, 3) := by decide +kernel
theorem dX7_lose_24 : decode cX7_lose 24 = .ok (.ireturn, 1) := by decide +kernel
theorem dX7_lose_25 : decode cX7_lose 25 = .ok (.aload_n 0, 1) := by decide +kernel
theorem dX7_lose_26 : decode cX7_lose 26 = .ok (.getfield 82, 3) := by decide +kernel
theorem dX7_lose_29 : decode cX7_lose 29 = .ok (.iload_n 1, 1) := by decide +kernel
theorem dX7_lose_30 : decode cX7_lose 30 = .ok (.iconst 0, 1) := by decide +kernel
theorem dX7_lose_31 : decode cX7_lose 31 = .ok (.bastore, 1) := by decide +kernel
theorem dX7_lose_32 : decode cX7_lose 32 = .ok (.aload_n 0, 1) := by decide +kernel
theorem dX7_lose_33 : decode cX7_lose 33 = .ok (.getfield 89, 3) := by decide +kernel
theorem dX7_lose_36 : decode cX7_lose 36 = .ok (.iload_n 1, 1) := by decide +kernel
theorem dX7_lose_37 : decode cX7_lose 37 = .ok (.iaload, 1) := by decide +kernel
theorem dX7_lose_38 : decode cX7_lose 38 = .ok (.ireturn, 1) := by decide +kernel
theorem dX7_lacks_0 : decode cX7_lacks 0 = .ok (.aload_n 0, 1) := by decide +kernel
theorem dX7_lacks_1 : decode cX7_lacks 1 = .ok (.getfield 82, 3) := by decide +kernel
theorem dX7_lacks_4 : decode cX7_lacks 4 = .ok (.iload_n 1, 1) := by decide +kernel
theorem dX7_lacks_5 : decode cX7_lacks 5 = .ok (.baload, 1) := by decide +kernel
theorem dX7_lacks_6 : decode cX7_lacks 6 = .ok (.ifCond .ne 7, 3) := by decide +kernel
theorem dX7_lacks_9 : decode cX7_lacks 9 = .ok (.iconst 1, 1) := by decide +kernel
theorem dX7_lacks_10 : decode cX7_lacks 10 = .ok (.goto 38, 3) := by decide +kernel
theorem dX7_lacks_13 : decode cX7_lacks 13 = .ok (.aload_n 0, 1) := by decide +kernel
theorem dX7_lacks_14 : decode cX7_lacks 14 = .ok (.getfield 86, 3) := by decide +kernel
theorem dX7_lacks_17 : decode cX7_lacks 17 = .ok (.iload_n 1, 1) := by decide +kernel
theorem dX7_lacks_18 : decode cX7_lacks 18 = .ok (.iaload, 1) := by decide +kernel
theorem dX7_lacks_19 : decode cX7_lacks 19 = .ok (.iload_n 2, 1) := by decide +kernel
theorem dX7_lacks_20 : decode cX7_lacks 20 = .ok (.if_icmp .eq 7, 3) := by decide +kernel
theorem dX7_lacks_23 : decode cX7_lacks 23 = .ok (.iconst 3, 1) := by decide +kernel
theorem dX7_lacks_24 : decode cX7_lacks 24 = .ok (.goto 24, 3) := by decide +kernel
theorem dX7_lacks_27 : decode cX7_lacks 27 = .ok (.iload_n 3, 1) := by decide +kernel
theorem dX7_lacks_28 : decode cX7_lacks 28 = .ok (.iconst 0, 1) := by decide +kernel
theorem dX7_lacks_29 : decode cX7_lacks 29 = .ok (.aload_n 0, 1) := by decide +kernel
theorem dX7_lacks_30 : decode cX7_lacks 30 = .ok (.getfield 89, 3) := by decide +kernel
theorem dX7_lacks_33 : decode cX7_lacks 33 = .ok (.iload_n 1, 1) := by decide +kernel
theorem dX7_lacks_34 : decode cX7_lacks 34 = .ok (.iaload, 1) := by decide +kernel
theorem dX7_lacks_35 : decode cX7_lacks 35 = .ok (.iconst 1, 1) := by decide +kernel
theorem dX7_lacks_36 : decode cX7_lacks 36 = .ok (.isub, 1) := by decide +kernel
theorem dX7_lacks_37 : decode cX7_lacks 37 = .ok (.invokestatic 100, 3) := by decide +kernel
theorem dX7_lacks_40 : decode cX7_lacks 40 = .ok (.ifCond .eq 7, 3) := by decide +kernel
theorem dX7_lacks_43 : decode cX7_lacks 43 = .ok (.iconst 0, 1) := by decide +kernel
theorem dX7_lacks_44 : decode cX7_lacks 44 = .ok (.goto 4, 3) := by decide +kernel
theorem dX7_lacks_47 : decode cX7_lacks 47 = .ok (.iconst 2, 1) := by decide +kernel
theorem dX7_lacks_48 : decode cX7_lacks 48 = .ok (.ireturn, 1) := by decide +kernel
theorem dX7_keep_0 : decode cX7_keep 0 = .ok (.aload_n 0, 1) := by decide +kernel
theorem dX7_keep_1 : decode cX7_keep 1 = .ok (.getfield 92, 3) := by decide +kernel
theorem dX7_keep_4 : decode cX7_keep 4 = .ok (.bipush 60, 2) := by decide +kernel
theorem dX7_keep_6 : decode cX7_keep 6 = .ok (.iload_n 1, 1) := by decide +kernel
theorem dX7_keep_7 : decode cX7_keep 7 = .ok (.imul, 1) := by decide +kernel
theorem dX7_keep_8 : decode cX7_keep 8 = .ok (.iload_n 2, 1) := by decide +kernel
theorem dX7_keep_9 : decode cX7_keep 9 = .ok (.iadd, 1) := by decide +kernel
theorem dX7_keep_10 : decode cX7_keep 10 = .ok (.aload_n 0, 1) := by decide +kernel
theorem dX7_keep_11 : decode cX7_keep 11 = .ok (.getfield 86, 3) := by decide +kernel
theorem dX7_keep_14 : decode cX7_keep 14 = .ok (.iload_n 1, 1) := by decide +kernel
theorem dX7_keep_15 : decode cX7_keep 15 = .ok (.iaload, 1) := by decide +kernel
theorem dX7_keep_16 : decode cX7_keep 16 = .ok (.ifCond .ne 8, 3) := by decide +kernel
theorem dX7_keep_19 : decode cX7_keep 19 = .ok (.iload_n 3, 1) := by decide +kernel
theorem dX7_keep_20 : decode cX7_keep 20 = .ok (.i2b, 1) := by decide +kernel
theorem dX7_keep_21 : decode cX7_keep 21 = .ok (.goto 19, 3) := by decide +kernel
theorem dX7_keep_24 : decode cX7_keep 24 = .ok (.aload_n 0, 1) := by decide +kernel
theorem dX7_keep_25 : decode cX7_keep 25 = .ok (.getfield 86, 3) := by decide +kernel
theorem dX7_keep_28 : decode cX7_keep 28 = .ok (.iload_n 1, 1) := by decide +kernel
theorem dX7_keep_29 : decode cX7_keep 29 = .ok (.iaload, 1) := by decide +kernel
theorem dX7_keep_30 : decode cX7_keep 30 = .ok (.iconst 1, 1) := by decide +kernel
theorem dX7_keep_31 : decode cX7_keep 31 = .ok (.if_icmp .ne 8, 3) := by decide +kernel
theorem dX7_keep_34 : decode cX7_keep 34 = .ok (.iload_n 3, 1) := by decide +kernel
theorem dX7_keep_35 : decode cX7_keep 35 = .ok (.i2s, 1) := by decide +kernel
theorem dX7_keep_36 : decode cX7_keep 36 = .ok (.goto 4, 3) := by decide +kernel
theorem dX7_keep_39 : decode cX7_keep 39 = .ok (.iload_n 3, 1) := by decide +kernel
theorem dX7_keep_40 : decode cX7_keep 40 = .ok (.iastore, 1) := by decide +kernel
theorem dX7_keep_41 : decode cX7_keep 41 = .ok (.return_, 1) := by decide +kernel
theorem dX7_put_0 : decode cX7_put 0 = .ok (.iload_n 1, 1) := by decide +kernel
theorem dX7_put_1 : decode cX7_put 1 = .ok (.invokestatic 156, 3) := by decide +kernel
theorem dX7_put_4 : decode cX7_put 4 = .ok (.ifCond .eq 12, 3) := by decide +kernel
theorem dX7_put_7 : decode cX7_put 7 = .ok (.iload_n 2, 1) := by decide +kernel
theorem dX7_put_8 : decode cX7_put 8 = .ok (.iconst 0, 1) := by decide +kernel
theorem dX7_put_9 : decode cX7_put 9 = .ok (.iconst 2, 1) := by decide +kernel
theorem dX7_put_10 : decode cX7_put 10 = .ok (.invokestatic 100, 3) := by decide +kernel
theorem dX7_put_13 : decode cX7_put 13 = .ok (.ifCond .ne 6, 3) := by decide +kernel
theorem dX7_put_16 : decode cX7_put 16 = .ok (.bipush (-2), 2) := by decide +kernel
theorem dX7_put_18 : decode cX7_put 18 = .ok (.ireturn, 1) := by decide +kernel
theorem dX7_put_19 : decode cX7_put 19 = .ok (.aload_n 0, 1) := by decide +kernel
theorem dX7_put_20 : decode cX7_put 20 = .ok (.iload_n 1, 1) := by decide +kernel
theorem dX7_put_21 : decode cX7_put 21 = .ok (.iload_n 2, 1) := by decide +kernel
theorem dX7_put_22 : decode cX7_put 22 = .ok (.iload_n 3, 1) := by decide +kernel
theorem dX7_put_23 : decode cX7_put 23 = .ok (.invokevirtual 313, 3) := by decide +kernel
theorem dX7_put_26 : decode cX7_put 26 = .ok (.istore 5, 2) := by decide +kernel
theorem dX7_put_28 : decode cX7_put 28 = .ok (.iload 5, 2) := by decide +kernel
theorem dX7_put_30 : decode cX7_put 30 = .ok (.ifCond .le 10, 3) := by decide +kernel
theorem dX7_put_33 : decode cX7_put 33 = .ok (.aload_n 0, 1) := by decide +kernel
theorem dX7_put_34 : decode cX7_put 34 = .ok (.iload 5, 2) := by decide +kernel
theorem dX7_put_36 : decode cX7_put 36 = .ok (.invokevirtual 159, 3) := by decide +kernel
theorem dX7_put_39 : decode cX7_put 39 = .ok (.ireturn, 1) := by decide +kernel
theorem dX7_put_40 : decode cX7_put 40 = .ok (.aload_n 0, 1) := by decide +kernel
theorem dX7_put_41 : decode cX7_put 41 = .ok (.iload_n 1, 1) := by decide +kernel
theorem dX7_put_42 : decode cX7_put 42 = .ok (.iload_n 3, 1) := by decide +kernel
theorem dX7_put_43 : decode cX7_put 43 = .ok (.iload 4, 2) := by decide +kernel
theorem dX7_put_45 : decode cX7_put 45 = .ok (.invokevirtual 316, 3) := by decide +kernel
theorem dX7_put_48 : decode cX7_put 48 = .ok (.iconst 1, 1) := by decide +kernel
theorem dX7_put_49 : decode cX7_put 49 = .ok (.ireturn, 1) := by decide +kernel
theorem dX7_get_0 : decode cX7_get 0 = .ok (.iload_n 1, 1) := by decide +kernel
theorem dX7_get_1 : decode cX7_get 1 = .ok (.invokestatic 156, 3) := by decide +kernel
theorem dX7_get_4 : decode cX7_get 4 = .ok (.ifCond .eq 12, 3) := by decide +kernel
theorem dX7_get_7 : decode cX7_get 7 = .ok (.iload_n 2, 1) := by decide +kernel
theorem dX7_get_8 : decode cX7_get 8 = .ok (.iconst 0, 1) := by decide +kernel
theorem dX7_get_9 : decode cX7_get 9 = .ok (.iconst 2, 1) := by decide +kernel
theorem dX7_get_10 : decode cX7_get 10 = .ok (.invokestatic 100, 3) := by decide +kernel
theorem dX7_get_13 : decode cX7_get 13 = .ok (.ifCond .ne 6, 3) := by decide +kernel
theorem dX7_get_16 : decode cX7_get 16 = .ok (.ldc 226, 2) := by decide +kernel
theorem dX7_get_18 : decode cX7_get 18 = .ok (.ireturn, 1) := by decide +kernel
theorem dX7_get_19 : decode cX7_get 19 = .ok (.aload_n 0, 1) := by decide +kernel
theorem dX7_get_20 : decode cX7_get 20 = .ok (.iload_n 1, 1) := by decide +kernel
theorem dX7_get_21 : decode cX7_get 21 = .ok (.iload_n 2, 1) := by decide +kernel
theorem dX7_get_22 : decode cX7_get 22 = .ok (.iload_n 3, 1) := by decide +kernel
theorem dX7_get_23 : decode cX7_get 23 = .ok (.invokevirtual 313, 3) := by decide +kernel
theorem dX7_get_26 : decode cX7_get 26 = .ok (.istore 4, 2) := by decide +kernel
theorem dX7_get_28 : decode cX7_get 28 = .ok (.iload 4, 2) := by decide +kernel
theorem dX7_get_30 : decode cX7_get 30 = .ok (.ifCond .le 12, 3) := by decide +kernel
theorem dX7_get_33 : decode cX7_get 33 = .ok (.aload_n 0, 1) := by decide +kernel
theorem dX7_get_34 : decode cX7_get 34 = .ok (.iload 4, 2) := by decide +kernel
theorem dX7_get_36 : decode cX7_get 36 = .ok (.putfield 310, 3) := by decide +kernel
theorem dX7_get_39 : decode cX7_get 39 = .ok (.ldc 226, 2) := by decide +kernel
theorem dX7_get_41 : decode cX7_get 41 = .ok (.ireturn, 1) := by decide +kernel
theorem dX7_get_42 : decode cX7_get 42 = .ok (.aload_n 0, 1) := by decide +kernel
theorem dX7_get_43 : decode cX7_get 43 = .ok (.getfield 92, 3) := by decide +kernel
theorem dX7_get_46 : decode cX7_get 46 = .ok (.bipush 60, 2) := by decide +kernel
theorem dX7_get_48 : decode cX7_get 48 = .ok (.iload_n 1, 1) := by decide +kernel
theorem dX7_get_49 : decode cX7_get 49 = .ok (.imul, 1) := by decide +kernel
theorem dX7_get_50 : decode cX7_get 50 = .ok (.iload_n 3, 1) := by decide +kernel
theorem dX7_get_51 : decode cX7_get 51 = .ok (.iadd, 1) := by decide +kernel
theorem dX7_get_52 : decode cX7_get 52 = .ok (.iaload, 1) := by decide +kernel
theorem dX7_get_53 : decode cX7_get 53 = .ok (.ireturn, 1) := by decide +kernel
theorem dX7_copy_0 : decode cX7_copy 0 = .ok (.iload_n 1, 1) := by decide +kernel
theorem dX7_copy_1 : decode cX7_copy 1 = .ok (.invokestatic 156, 3) := by decide +kernel
theorem dX7_copy_4 : decode cX7_copy 4 = .ok (.ifCond .eq 10, 3) := by decide +kernel
theorem dX7_copy_7 : decode cX7_copy 7 = .ok (.iload_n 3, 1) := by decide +kernel
theorem dX7_copy_8 : decode cX7_copy 8 = .ok (.invokestatic 156, 3) := by decide +kernel
theorem dX7_copy_11 : decode cX7_copy 11 = .ok (.ifCond .ne 6, 3) := by decide +kernel
theorem dX7_copy_14 : decode cX7_copy 14 = .ok (.bipush (-2), 2) := by decide +kernel
theorem dX7_copy_16 : decode cX7_copy 16 = .ok (.ireturn, 1) := by decide +kernel
theorem dX7_copy_17 : decode cX7_copy 17 = .ok (.aload_n 0, 1) := by decide +kernel
theorem dX7_copy_18 : decode cX7_copy 18 = .ok (.getfield 82, 3) := by decide +kernel
theorem dX7_copy_21 : decode cX7_copy 21 = .ok (.iload_n 1, 1) := by decide +kernel
theorem dX7_copy_22 : decode cX7_copy 22 = .ok (.baload, 1) := by decide +kernel
theorem dX7_copy_23 : decode cX7_copy 23 = .ok (.ifCond .eq 12, 3) := by decide +kernel
theorem dX7_copy_26 : decode cX7_copy 26 = .ok (.aload_n 0, 1) := by decide +kernel
theorem dX7_copy_27 : decode cX7_copy 27 = .ok (.getfield 82, 3) := by decide +kernel
theorem dX7_copy_30 : decode cX7_copy 30 = .ok (.iload_n 3, 1) := by decide +kernel
theorem dX7_copy_31 : decode cX7_copy 31 = .ok (.baload, 1) := by decide +kernel
theorem dX7_copy_32 : decode cX7_copy 32 = .ok (.ifCond .ne 9, 3) := by decide +kernel
theorem dX7_copy_35 : decode cX7_copy 35 = .ok (.aload_n 0, 1) := by decide +kernel
theorem dX7_copy_36 : decode cX7_copy 36 = .ok (.iconst 1, 1) := by decide +kernel
theorem dX7_copy_37 : decode cX7_copy 37 = .ok (.invokevirtual 159, 3) := by decide +kernel
theorem dX7_copy_40 : decode cX7_copy 40 = .ok (.ireturn, 1) := by decide +kernel
theorem dX7_copy_41 : decode cX7_copy 41 = .ok (.aload_n 0, 1) := by decide +kernel
theorem dX7_copy_42 : decode cX7_copy 42 = .ok (.getfield 86, 3) := by decide +kernel
theorem dX7_copy_45 : decode cX7_copy 45 = .ok (.iload_n 1, 1) := by decide +kernel
theorem dX7_copy_46 : decode cX7_copy 46 = .ok (.iaload, 1) := by decide +kernel
theorem dX7_copy_47 : decode cX7_copy 47 = .ok (.aload_n 0, 1) := by decide +kernel
theorem dX7_copy_48 : decode cX7_copy 48 = .ok (.getfield 86, 3) := by decide +kernel
theorem dX7_copy_51 : decode cX7_copy 51 = .ok (.iload_n 3, 1) := by decide +kernel
theorem dX7_copy_52 : decode cX7_copy 52 = .ok (.iaload, 1) := by decide +kernel
theorem dX7_copy_53 : decode cX7_copy 53 = .ok (.if_icmp .eq 9, 3) := by decide +kernel
theorem dX7_copy_56 : decode cX7_copy 56 = .ok (.aload_n 0, 1) := by decide +kernel
theorem dX7_copy_57 : decode cX7_copy 57 = .ok (.iconst 4, 1) := by decide +kernel
theorem dX7_copy_58 : decode cX7_copy 58 = .ok (.invokevirtual 159, 3) := by decide +kernel
theorem dX7_copy_61 : decode cX7_copy 61 = .ok (.ireturn, 1) := by decide +kernel
theorem dX7_copy_62 : decode cX7_copy 62 = .ok (.iload_n 2, 1) := by decide +kernel
theorem dX7_copy_63 : decode cX7_copy 63 = .ok (.ifCond .lt 48, 3) := by decide +kernel
theorem dX7_copy_66 : decode cX7_copy 66 = .ok (.iload 4, 2) := by decide +kernel
theorem dX7_copy_68 : decode cX7_copy 68 = .ok (.ifCond .lt 43, 3) := by decide +kernel
theorem dX7_copy_71 : decode cX7_copy 71 = .ok (.iload 5, 2) := by decide +kernel
theorem dX7_copy_73 : decode cX7_copy 73 = .ok (.ifCond .lt 38, 3) := by decide +kernel
theorem dX7_copy_76 : decode cX7_copy 76 = .ok (.iload_n 2, 1) := by decide +kernel
theorem dX7_copy_77 : decode cX7_copy 77 = .ok (.i2l, 1) := by decide +kernel
theorem dX7_copy_78 : decode cX7_copy 78 = .ok (.iload 5, 2) := by decide +kernel
theorem dX7_copy_80 : decode cX7_copy 80 = .ok (.i2l, 1) := by decide +kernel
theorem dX7_copy_81 : decode cX7_copy 81 = .ok (.ladd, 1) := by decide +kernel
theorem dX7_copy_82 : decode cX7_copy 82 = .ok (.aload_n 0, 1) := by decide +kernel
theorem dX7_copy_83 : decode cX7_copy 83 = .ok (.getfield 89, 3) := by decide +kernel
theorem dX7_copy_86 : decode cX7_copy 86 = .ok (.iload_n 1, 1) := by decide +kernel
theorem dX7_copy_87 : decode cX7_copy 87 = .ok (.iaload, 1) := by decide +kernel
theorem dX7_copy_88 : decode cX7_copy 88 = .ok (.i2l, 1) := by decide +kernel
theorem dX7_copy_89 : decode cX7_copy 89 = .ok (.lcmp, 1) := by decide +kernel
theorem dX7_copy_90 : decode cX7_copy 90 = .ok (.ifCond .gt 21, 3) := by decide +kernel
theorem dX7_copy_93 : decode cX7_copy 93 = .ok (.iload 4, 2) := by decide +kernel
theorem dX7_copy_95 : decode cX7_copy 95 = .ok (.i2l, 1) := by decide +kernel
theorem dX7_copy_96 : decode cX7_copy 96 = .ok (.iload 5, 2) := by decide +kernel
theorem dX7_copy_98 : decode cX7_copy 98 = .ok (.i2l, 1) := by decide +kernel
theorem dX7_copy_99 : decode cX7_copy 99 = .ok (.ladd, 1) := by decide +kernel
theorem dX7_copy_100 : decode cX7_copy 100 = .ok (.aload_n 0, 1) := by decide +kernel
theorem dX7_copy_101 : decode cX7_copy 101 = .ok (.getfield 89, 3) := by decide +kernel
theorem dX7_copy_104 : decode cX7_copy 104 = .ok (.iload_n 3, 1) := by decide +kernel
theorem dX7_copy_105 : decode cX7_copy 105 = .ok (.iaload, 1) := by decide +kernel
theorem dX7_copy_106 : decode cX7_copy 106 = .ok (.i2l, 1) := by decide +kernel
theorem dX7_copy_107 : decode cX7_copy 107 = .ok (.lcmp, 1) := by decide +kernel
theorem dX7_copy_108 : decode cX7_copy 108 = .ok (.ifCond .le 9, 3) := by decide +kernel
theorem dX7_copy_111 : decode cX7_copy 111 = .ok (.aload_n 0, 1) := by decide +kernel
theorem dX7_copy_112 : decode cX7_copy 112 = .ok (.iconst 2, 1) := by decide +kernel
theorem dX7_copy_113 : decode cX7_copy 113 = .ok (.invokevirtual 159, 3) := by decide +kernel
theorem dX7_copy_116 : decode cX7_copy 116 = .ok (.ireturn, 1) := by decide +kernel
theorem dX7_copy_117 : decode cX7_copy 117 = .ok (.iconst 0, 1) := by decide +kernel
theorem dX7_copy_118 : decode cX7_copy 118 = .ok (.istore 6, 2) := by decide +kernel
theorem dX7_copy_120 : decode cX7_copy 120 = .ok (.iload 6, 2) := by decide +kernel
theorem dX7_copy_122 : decode cX7_copy 122 = .ok (.iload 5, 2) := by decide +kernel
theorem dX7_copy_124 : decode cX7_copy 124 = .ok (.if_icmp .ge 30, 3) := by decide +kernel
theorem dX7_copy_127 : decode cX7_copy 127 = .ok (.aload_n 0, 1) := by decide +kernel
theorem dX7_copy_128 : decode cX7_copy 128 = .ok (.getfield 95, 3) := by decide +kernel
theorem dX7_copy_131 : decode cX7_copy 131 = .ok (.iload 6, 2) := by decide +kernel
theorem dX7_copy_133 : decode cX7_copy 133 = .ok (.aload_n 0, 1) := by decide +kernel
theorem dX7_copy_134 : decode cX7_copy 134 = .ok (.getfield 92, 3) := by decide +kernel
theorem dX7_copy_137 : decode cX7_copy 137 = .ok (.bipush 60, 2) := by decide +kernel
theorem dX7_copy_139 : decode cX7_copy 139 = .ok (.iload_n 1, 1) := by decide +kernel
theorem dX7_copy_140 : decode cX7_copy 140 = .ok (.imul, 1) := by decide +kernel
theorem dX7_copy_141 : decode cX7_copy 141 = .ok (.iload_n 2, 1) := by decide +kernel
theorem dX7_copy_142 : decode cX7_copy 142 = .ok (.iadd, 1) := by decide +kernel
theorem dX7_copy_143 : decode cX7_copy 143 = .ok (.iload 6, 2) := by decide +kernel
theorem dX7_copy_145 : decode cX7_copy 145 = .ok (.iadd, 1) := by decide +kernel
theorem dX7_copy_146 : decode cX7_copy 146 = .ok (.iaload, 1) := by decide +kernel
theorem dX7_copy_147 : decode cX7_copy 147 = .ok (.iastore, 1) := by decide +kernel
theorem dX7_copy_148 : decode cX7_copy 148 = .ok (.iinc 6 1, 3) := by decide +kernel
theorem dX7_copy_151 : decode cX7_copy 151 = .ok (.goto (-31), 3) := by decide +kernel
theorem dX7_copy_154 : decode cX7_copy 154 = .ok (.iconst 0, 1) := by decide +kernel
theorem dX7_copy_155 : decode cX7_copy 155 = .ok (.istore 6, 2) := by decide +kernel
theorem dX7_copy_157 : decode cX7_copy 157 = .ok (.iload 6, 2) := by decide +kernel
theorem dX7_copy_159 : decode cX7_copy 159 = .ok (.iload 5, 2) := by decide +kernel
theorem dX7_copy_161 : decode cX7_copy 161 = .ok (.if_icmp .ge 31, 3) := by decide +kernel
theorem dX7_copy_164 : decode cX7_copy 164 = .ok (.aload_n 0, 1) := by decide +kernel
theorem dX7_copy_165 : decode cX7_copy 165 = .ok (.getfield 92, 3) := by decide +kernel
theorem dX7_copy_168 : decode cX7_copy 168 = .ok (.bipush 60, 2) := by decide +kernel
theorem dX7_copy_170 : decode cX7_copy 170 = .ok (.iload_n 3, 1) := by decide +kernel
theorem dX7_copy_171 : decode cX7_copy 171 = .ok (.imul, 1) := by decide +kernel
theorem dX7_copy_172 : decode cX7_copy 172 = .ok (.iload 4, 2) := by decide +kernel
theorem dX7_copy_174 : decode cX7_copy 174 = .ok (.iadd, 1) := by decide +kernel
theorem dX7_copy_175 : decode cX7_copy 175 = .ok (.iload 6, 2) := by decide +kernel
theorem dX7_copy_177 : decode cX7_copy 177 = .ok (.iadd, 1) := by decide +kernel
theorem dX7_copy_178 : decode cX7_copy 178 = .ok (.aload_n 0, 1) := by decide +kernel
theorem dX7_copy_179 : decode cX7_copy 179 = .ok (.getfield 95, 3) := by decide +kernel
theorem dX7_copy_182 : decode cX7_copy 182 = .ok (.iload 6, 2) := by decide +kernel
theorem dX7_copy_184 : decode cX7_copy 184 = .ok (.iaload, 1) := by decide +kernel
theorem dX7_copy_185 : decode cX7_copy 185 = .ok (.iastore, 1) := by decide +kernel
theorem dX7_copy_186 : decode cX7_copy 186 = .ok (.iinc 6 1, 3) := by decide +kernel
theorem dX7_copy_189 : decode cX7_copy 189 = .ok (.goto (-32), 3) := by decide +kernel
theorem dX7_copy_192 : decode cX7_copy 192 = .ok (.iconst 1, 1) := by decide +kernel
theorem dX7_copy_193 : decode cX7_copy 193 = .ok (.ireturn, 1) := by decide +kernel
theorem dX7_write_0 : decode cX7_write 0 = .ok (.iload_n 1, 1) := by decide +kernel
theorem dX7_write_1 : decode cX7_write 1 = .ok (.invokestatic 156, 3) := by decide +kernel
theorem dX7_write_4 : decode cX7_write 4 = .ok (.ifCond .ne 6, 3) := by decide +kernel
theorem dX7_write_7 : decode cX7_write 7 = .ok (.bipush (-2), 2) := by decide +kernel
theorem dX7_write_9 : decode cX7_write 9 = .ok (.ireturn, 1) := by decide +kernel
theorem dX7_write_10 : decode cX7_write 10 = .ok (.aload_n 0, 1) := by decide +kernel
theorem dX7_write_11 : decode cX7_write 11 = .ok (.getfield 82, 3) := by decide +kernel
theorem dX7_write_14 : decode cX7_write 14 = .ok (.iload_n 1, 1) := by decide +kernel
theorem dX7_write_15 : decode cX7_write 15 = .ok (.baload, 1) := by decide +kernel
theorem dX7_write_16 : decode cX7_write 16 = .ok (.ifCond .ne 9, 3) := by decide +kernel
theorem dX7_write_19 : decode cX7_write 19 = .ok (.aload_n 0, 1) := by decide +kernel
theorem dX7_write_20 : decode cX7_write 20 = .ok (.iconst 1, 1) := by decide +kernel
theorem dX7_write_21 : decode cX7_write 21 = .ok (.invokevirtual 159, 3) := by decide +kernel
theorem dX7_write_24 : decode cX7_write 24 = .ok (.ireturn, 1) := by decide +kernel
theorem dX7_write_25 : decode cX7_write 25 = .ok (.aload_n 0, 1) := by decide +kernel
theorem dX7_write_26 : decode cX7_write 26 = .ok (.invokevirtual 211, 3) := by decide +kernel
theorem dX7_write_29 : decode cX7_write 29 = .ok (.iconst 0, 1) := by decide +kernel
theorem dX7_write_30 : decode cX7_write 30 = .ok (.istore_n 2, 1) := by decide +kernel
theorem dX7_write_31 : decode cX7_write 31 = .ok (.iload_n 2, 1) := by decide +kernel
theorem dX7_write_32 : decode cX7_write 32 = .ok (.aload_n 0, 1) := by decide +kernel
theorem dX7_write_33 : decode cX7_write 33 = .ok (.getfield 89, 3) := by decide +kernel
theorem dX7_write_36 : decode cX7_write 36 = .ok (.iload_n 1, 1) := by decide +kernel
theorem dX7_write_37 : decode cX7_write 37 = .ok (.iaload, 1) := by decide +kernel
theorem dX7_write_38 : decode cX7_write 38 = .ok (.if_icmp .ge 27, 3) := by decide +kernel
theorem dX7_write_41 : decode cX7_write 41 = .ok (.iload_n 2, 1) := by decide +kernel
theorem dX7_write_42 : decode cX7_write 42 = .ok (.bipush 24, 2) := by decide +kernel
theorem dX7_write_44 : decode cX7_write 44 = .ok (.if_icmp .ge 21, 3) := by decide +kernel
theorem dX7_write_47 : decode cX7_write 47 = .ok (.aload_n 0, 1) := by decide +kernel
theorem dX7_write_48 : decode cX7_write 48 = .ok (.iload_n 1, 1) := by decide +kernel
theorem dX7_write_49 : decode cX7_write 49 = .ok (.iload_n 2, 1) := by decide +kernel
theorem dX7_write_50 : decode cX7_write 50 = .ok (.aload_n 0, 1) := by decide +kernel
theorem dX7_write_51 : decode cX7_write 51 = .ok (.getfield 67, 3) := by decide +kernel
theorem dX7_write_54 : decode cX7_write 54 = .ok (.iload_n 2, 1) := by decide +kernel
theorem dX7_write_55 : decode cX7_write 55 = .ok (.iaload, 1) := by decide +kernel
theorem dX7_write_56 : decode cX7_write 56 = .ok (.invokevirtual 316, 3) := by decide +kernel
theorem dX7_write_59 : decode cX7_write 59 = .ok (.iinc 2 1, 3) := by decide +kernel
theorem dX7_write_62 : decode cX7_write 62 = .ok (.goto (-31), 3) := by decide +kernel
theorem dX7_write_65 : decode cX7_write 65 = .ok (.iload_n 2, 1) := by decide +kernel
theorem dX7_write_66 : decode cX7_write 66 = .ok (.ireturn, 1) := by decide +kernel
theorem dX7_ones_0 : decode cX7_ones 0 = .ok (.iconst 0, 1) := by decide +kernel
theorem dX7_ones_1 : decode cX7_ones 1 = .ok (.istore_n 2, 1) := by decide +kernel
theorem dX7_ones_2 : decode cX7_ones 2 = .ok (.iconst 0, 1) := by decide +kernel
theorem dX7_ones_3 : decode cX7_ones 3 = .ok (.istore_n 3, 1) := by decide +kernel
theorem dX7_ones_4 : decode cX7_ones 4 = .ok (.iload_n 3, 1) := by decide +kernel
theorem dX7_ones_5 : decode cX7_ones 5 = .ok (.bipush 8, 2) := by decide +kernel
theorem dX7_ones_7 : decode cX7_ones 7 = .ok (.if_icmp .ge 25, 3) := by decide +kernel
theorem dX7_ones_10 : decode cX7_ones 10 = .ok (.iload_n 2, 1) := by decide +kernel
theorem dX7_ones_11 : decode cX7_ones 11 = .ok (.iload_n 1, 1) := by decide +kernel
theorem dX7_ones_12 : decode cX7_ones 12 = .ok (.iload_n 3, 1) := by decide +kernel
theorem dX7_ones_13 : decode cX7_ones 13 = .ok (.invokestatic 175, 3) := by decide +kernel
theorem dX7_ones_16 : decode cX7_ones 16 = .ok (.ifCond .eq 7, 3) := by decide +kernel
theorem dX7_ones_19 : decode cX7_ones 19 = .ok (.iconst 1, 1) := by decide +kernel
theorem dX7_ones_20 : decode cX7_ones 20 = .ok (.goto 4, 3) := by decide +kernel
theorem dX7_ones_23 : decode cX7_ones 23 = .ok (.iconst 0, 1) := by decide +kernel
theorem dX7_ones_24 : decode cX7_ones 24 = .ok (.iadd, 1) := by decide +kernel
theorem dX7_ones_25 : decode cX7_ones 25 = .ok (.istore_n 2, 1) := by decide +kernel
theorem dX7_ones_26 : decode cX7_ones 26 = .ok (.iinc 3 1, 3) := by decide +kernel
theorem dX7_ones_29 : decode cX7_ones 29 = .ok (.goto (-25), 3) := by decide +kernel
theorem dX7_ones_32 : decode cX7_ones 32 = .ok (.iload_n 2, 1) := by decide +kernel
theorem dX7_ones_33 : decode cX7_ones 33 = .ok (.ireturn, 1) := by decide +kernel
theorem dX7_tellOf_0 : decode cX7_tellOf 0 = .ok (.aload_n 0, 1) := by decide +kernel
theorem dX7_tellOf_1 : decode cX7_tellOf 1 = .ok (.invokevirtual 211, 3) := by decide +kernel
theorem dX7_tellOf_4 : decode cX7_tellOf 4 = .ok (.iload_n 1, 1) := by decide +kernel
theorem dX7_tellOf_5 : decode cX7_tellOf 5 = .ok (.ifCond .ne 10, 3) := by decide +kernel
theorem dX7_tellOf_8 : decode cX7_tellOf 8 = .ok (.aload_n 0, 1) := by decide +kernel
theorem dX7_tellOf_9 : decode cX7_tellOf 9 = .ok (.getfield 116, 3) := by decide +kernel
theorem dX7_tellOf_12 : decode cX7_tellOf 12 = .ok (.goto 35, 3) := by decide +kernel
theorem dX7_tellOf_15 : decode cX7_tellOf 15 = .ok (.iload_n 1, 1) := by decide +kernel
theorem dX7_tellOf_16 : decode cX7_tellOf 16 = .ok (.iconst 1, 1) := by decide +kernel
theorem dX7_tellOf_17 : decode cX7_tellOf 17 = .ok (.if_icmp .ne 10, 3) := by decide +kernel
theorem dX7_tellOf_20 : decode cX7_tellOf 20 = .ok (.aload_n 0, 1) := by decide +kernel
theorem dX7_tellOf_21 : decode cX7_tellOf 21 = .ok (.getfield 120, 3) := by decide +kernel
theorem dX7_tellOf_24 : decode cX7_tellOf 24 = .ok (.goto 23, 3) := by decide +kernel
theorem dX7_tellOf_27 : decode cX7_tellOf 27 = .ok (.iload_n 1, 1) := by decide +kernel
theorem dX7_tellOf_28 : decode cX7_tellOf 28 = .ok (.iconst 5, 1) := by decide +kernel
theorem dX7_tellOf_29 : decode cX7_tellOf 29 = .ok (.if_icmp .ne 10, 3) := by decide +kernel
theorem dX7_tellOf_32 : decode cX7_tellOf 32 = .ok (.aload_n 0, 1) := by decide +kernel
theorem dX7_tellOf_33 : decode cX7_tellOf 33 = .ok (.invokevirtual 256, 3) := by decide +kernel
theorem dX7_tellOf_36 : decode cX7_tellOf 36 = .ok (.goto 11, 3) := by decide +kernel
theorem dX7_tellOf_39 : decode cX7_tellOf 39 = .ok (.aload_n 0, 1) := by decide +kernel
theorem dX7_tellOf_40 : decode cX7_tellOf 40 = .ok (.aload_n 0, 1) := by decide +kernel
theorem dX7_tellOf_41 : decode cX7_tellOf 41 = .ok (.invokevirtual 237, 3) := by decide +kernel
theorem dX7_tellOf_44 : decode cX7_tellOf 44 = .ok (.invokevirtual 319, 3) := by decide +kernel
theorem dX7_tellOf_47 : decode cX7_tellOf 47 = .ok (.ireturn, 1) := by decide +kernel
theorem dX7_count_0 : decode cX7_count 0 = .ok (.iload_n 1, 1) := by decide +kernel
theorem dX7_count_1 : decode cX7_count 1 = .ok (.tableswitch 81 0 8 #[51, 51, 57, 57, 66, 51, 51, 71, 76], 51) := by decide +kernel
theorem dX7_count_52 : decode cX7_count 52 = .ok (.aload_n 0, 1) := by decide +kernel
theorem dX7_count_53 : decode cX7_count 53 = .ok (.iload_n 1, 1) := by decide +kernel
theorem dX7_count_54 : decode cX7_count 54 = .ok (.invokevirtual 322, 3) := by decide +kernel
theorem dX7_count_57 : decode cX7_count 57 = .ok (.ireturn, 1) := by decide +kernel
theorem dX7_count_58 : decode cX7_count 58 = .ok (.aload_n 0, 1) := by decide +kernel
theorem dX7_count_59 : decode cX7_count 59 = .ok (.getfield 7, 3) := by decide +kernel
theorem dX7_count_62 : decode cX7_count 62 = .ok (.iload_n 1, 1) := by decide +kernel
theorem dX7_count_63 : decode cX7_count 63 = .ok (.iconst 2, 1) := by decide +kernel
theorem dX7_count_64 : decode cX7_count 64 = .ok (.isub, 1) := by decide +kernel
theorem dX7_count_65 : decode cX7_count 65 = .ok (.iaload, 1) := by decide +kernel
theorem dX7_count_66 : decode cX7_count 66 = .ok (.ireturn, 1) := by decide +kernel
theorem dX7_count_67 : decode cX7_count 67 = .ok (.aload_n 0, 1) := by decide +kernel
theorem dX7_count_68 : decode cX7_count 68 = .ok (.getfield 153, 3) := by decide +kernel
theorem dX7_count_71 : decode cX7_count 71 = .ok (.ireturn, 1) := by decide +kernel
theorem dX7_count_72 : decode cX7_count 72 = .ok (.aload_n 0, 1) := by decide +kernel
theorem dX7_count_73 : decode cX7_count 73 = .ok (.getfield 274, 3) := by decide +kernel
theorem dX7_count_76 : decode cX7_count 76 = .ok (.ireturn, 1) := by decide +kernel
theorem dX7_count_77 : decode cX7_count 77 = .ok (.aload_n 0, 1) := by decide +kernel
theorem dX7_count_78 : decode cX7_count 78 = .ok (.getfield 310, 3) := by decide +kernel
theorem dX7_count_81 : decode cX7_count 81 = .ok (.ireturn, 1) := by decide +kernel
theorem dX7_count_82 : decode cX7_count 82 = .ok (.bipush (-2), 2) := by decide +kernel
theorem dX7_count_84 : decode cX7_count 84 = .ok (.ireturn, 1) := by decide +kernel
theorem dX7_manDigest_0 : decode cX7_manDigest 0 = .ok (.lload_n 1, 1) := by decide +kernel
theorem dX7_manDigest_1 : decode cX7_manDigest 1 = .ok (.lstore 4, 2) := by decide +kernel
theorem dX7_manDigest_3 : decode cX7_manDigest 3 = .ok (.iconst 0, 1) := by decide +kernel
theorem dX7_manDigest_4 : decode cX7_manDigest 4 = .ok (.istore 6, 2) := by decide +kernel
theorem dX7_manDigest_6 : decode cX7_manDigest 6 = .ok (.iload 6, 2) := by decide +kernel
theorem dX7_manDigest_8 : decode cX7_manDigest 8 = .ok (.iconst 3, 1) := by decide +kernel
theorem dX7_manDigest_9 : decode cX7_manDigest 9 = .ok (.if_icmp .ge 26, 3) := by decide +kernel
theorem dX7_manDigest_12 : decode cX7_manDigest 12 = .ok (.ldc2_w 325, 3) := by decide +kernel
theorem dX7_manDigest_15 : decode cX7_manDigest 15 = .ok (.lload 4, 2) := by decide +kernel
theorem dX7_manDigest_17 : decode cX7_manDigest 17 = .ok (.lmul, 1) := by decide +kernel
theorem dX7_manDigest_18 : decode cX7_manDigest 18 = .ok (.aload_n 0, 1) := by decide +kernel
theorem dX7_manDigest_19 : decode cX7_manDigest 19 = .ok (.iload_n 3, 1) := by decide +kernel
theorem dX7_manDigest_20 : decode cX7_manDigest 20 = .ok (.iload 6, 2) := by decide +kernel
theorem dX7_manDigest_22 : decode cX7_manDigest 22 = .ok (.invokevirtual 147, 3) := by decide +kernel
theorem dX7_manDigest_25 : decode cX7_manDigest 25 = .ok (.i2l, 1) := by decide +kernel
theorem dX7_manDigest_26 : decode cX7_manDigest 26 = .ok (.ladd, 1) := by decide +kernel
theorem dX7_manDigest_27 : decode cX7_manDigest 27 = .ok (.lstore 4, 2) := by decide +kernel
theorem dX7_manDigest_29 : decode cX7_manDigest 29 = .ok (.iinc 6 1, 3) := by decide +kernel
theorem dX7_manDigest_32 : decode cX7_manDigest 32 = .ok (.goto (-26), 3) := by decide +kernel
theorem dX7_manDigest_35 : decode cX7_manDigest 35 = .ok (.ldc2_w 325, 3) := by decide +kernel
theorem dX7_manDigest_38 : decode cX7_manDigest 38 = .ok (.lload 4, 2) := by decide +kernel
theorem dX7_manDigest_40 : decode cX7_manDigest 40 = .ok (.lmul, 1) := by decide +kernel
theorem dX7_manDigest_41 : decode cX7_manDigest 41 = .ok (.aload_n 0, 1) := by decide +kernel
theorem dX7_manDigest_42 : decode cX7_manDigest 42 = .ok (.iload_n 3, 1) := by decide +kernel
theorem dX7_manDigest_43 : decode cX7_manDigest 43 = .ok (.iconst 0, 1) := by decide +kernel
theorem dX7_manDigest_44 : decode cX7_manDigest 44 = .ok (.invokevirtual 259, 3) := by decide +kernel
theorem dX7_manDigest_47 : decode cX7_manDigest 47 = .ok (.i2l, 1) := by decide +kernel
theorem dX7_manDigest_48 : decode cX7_manDigest 48 = .ok (.ladd, 1) := by decide +kernel
theorem dX7_manDigest_49 : decode cX7_manDigest 49 = .ok (.lstore 4, 2) := by decide +kernel
theorem dX7_manDigest_51 : decode cX7_manDigest 51 = .ok (.ldc2_w 325, 3) := by decide +kernel
theorem dX7_manDigest_54 : decode cX7_manDigest 54 = .ok (.lload 4, 2) := by decide +kernel
theorem dX7_manDigest_56 : decode cX7_manDigest 56 = .ok (.lmul, 1) := by decide +kernel
theorem dX7_manDigest_57 : decode cX7_manDigest 57 = .ok (.aload_n 0, 1) := by decide +kernel
theorem dX7_manDigest_58 : decode cX7_manDigest 58 = .ok (.iload_n 3, 1) := by decide +kernel
theorem dX7_manDigest_59 : decode cX7_manDigest 59 = .ok (.iconst 1, 1) := by decide +kernel
theorem dX7_manDigest_60 : decode cX7_manDigest 60 = .ok (.invokevirtual 259, 3) := by decide +kernel
theorem dX7_manDigest_63 : decode cX7_manDigest 63 = .ok (.i2l, 1) := by decide +kernel
theorem dX7_manDigest_64 : decode cX7_manDigest 64 = .ok (.ladd, 1) := by decide +kernel
theorem dX7_manDigest_65 : decode cX7_manDigest 65 = .ok (.lreturn, 1) := by decide +kernel
theorem dX7_callerDigest_0 : decode cX7_callerDigest 0 = .ok (.lload_n 1, 1) := by decide +kernel
theorem dX7_callerDigest_1 : decode cX7_callerDigest 1 = .ok (.lstore 4, 2) := by decide +kernel
theorem dX7_callerDigest_3 : decode cX7_callerDigest 3 = .ok (.iconst 0, 1) := by decide +kernel
theorem dX7_callerDigest_4 : decode cX7_callerDigest 4 = .ok (.istore 6, 2) := by decide +kernel
theorem dX7_callerDigest_6 : decode cX7_callerDigest 6 = .ok (.iload 6, 2) := by decide +kernel
theorem dX7_callerDigest_8 : decode cX7_callerDigest 8 = .ok (.iconst 4, 1) := by decide +kernel
theorem dX7_callerDigest_9 : decode cX7_callerDigest 9 = .ok (.if_icmp .ge 26, 3) := by decide +kernel
theorem dX7_callerDigest_12 : decode cX7_callerDigest 12 = .ok (.ldc2_w 325, 3) := by decide +kernel
theorem dX7_callerDigest_15 : decode cX7_callerDigest 15 = .ok (.lload 4, 2) := by decide +kernel
theorem dX7_callerDigest_17 : decode cX7_callerDigest 17 = .ok (.lmul, 1) := by decide +kernel
theorem dX7_callerDigest_18 : decode cX7_callerDigest 18 = .ok (.aload_n 0, 1) := by decide +kernel
theorem dX7_callerDigest_19 : decode cX7_callerDigest 19 = .ok (.iload_n 3, 1) := by decide +kernel
theorem dX7_callerDigest_20 : decode cX7_callerDigest 20 = .ok (.iload 6, 2) := by decide +kernel
theorem dX7_callerDigest_22 : decode cX7_callerDigest 22 = .ok (.invokevirtual 141, 3) := by decide +kernel
theorem dX7_callerDigest_25 : decode cX7_callerDigest 25 = .ok (.i2l, 1) := by decide +kernel
theorem dX7_callerDigest_26 : decode cX7_callerDigest 26 = .ok (.ladd, 1) := by decide +kernel
theorem dX7_callerDigest_27 : decode cX7_callerDigest 27 = .ok (.lstore 4, 2) := by decide +kernel
theorem dX7_callerDigest_29 : decode cX7_callerDigest 29 = .ok (.iinc 6 1, 3) := by decide +kernel
theorem dX7_callerDigest_32 : decode cX7_callerDigest 32 = .ok (.goto (-26), 3) := by decide +kernel
theorem dX7_callerDigest_35 : decode cX7_callerDigest 35 = .ok (.ldc2_w 325, 3) := by decide +kernel
theorem dX7_callerDigest_38 : decode cX7_callerDigest 38 = .ok (.lload 4, 2) := by decide +kernel
theorem dX7_callerDigest_40 : decode cX7_callerDigest 40 = .ok (.lmul, 1) := by decide +kernel
theorem dX7_callerDigest_41 : decode cX7_callerDigest 41 = .ok (.aload_n 0, 1) := by decide +kernel
theorem dX7_callerDigest_42 : decode cX7_callerDigest 42 = .ok (.bipush 6, 2) := by decide +kernel
theorem dX7_callerDigest_44 : decode cX7_callerDigest 44 = .ok (.iload_n 3, 1) := by decide +kernel
theorem dX7_callerDigest_45 : decode cX7_callerDigest 45 = .ok (.invokevirtual 214, 3) := by decide +kernel
theorem dX7_callerDigest_48 : decode cX7_callerDigest 48 = .ok (.i2l, 1) := by decide +kernel
theorem dX7_callerDigest_49 : decode cX7_callerDigest 49 = .ok (.ladd, 1) := by decide +kernel
theorem dX7_callerDigest_50 : decode cX7_callerDigest 50 = .ok (.lstore 4, 2) := by decide +kernel
theorem dX7_callerDigest_52 : decode cX7_callerDigest 52 = .ok (.ldc2_w 325, 3) := by decide +kernel
theorem dX7_callerDigest_55 : decode cX7_callerDigest 55 = .ok (.lload 4, 2) := by decide +kernel
theorem dX7_callerDigest_57 : decode cX7_callerDigest 57 = .ok (.lmul, 1) := by decide +kernel
theorem dX7_callerDigest_58 : decode cX7_callerDigest 58 = .ok (.aload_n 0, 1) := by decide +kernel
theorem dX7_callerDigest_59 : decode cX7_callerDigest 59 = .ok (.bipush 14, 2) := by decide +kernel
theorem dX7_callerDigest_61 : decode cX7_callerDigest 61 = .ok (.iload_n 3, 1) := by decide +kernel
theorem dX7_callerDigest_62 : decode cX7_callerDigest 62 = .ok (.invokevirtual 214, 3) := by decide +kernel
theorem dX7_callerDigest_65 : decode cX7_callerDigest 65 = .ok (.i2l, 1) := by decide +kernel
theorem dX7_callerDigest_66 : decode cX7_callerDigest 66 = .ok (.ladd, 1) := by decide +kernel
theorem dX7_callerDigest_67 : decode cX7_callerDigest 67 = .ok (.lstore 4, 2) := by decide +kernel
theorem dX7_callerDigest_69 : decode cX7_callerDigest 69 = .ok (.ldc2_w 325, 3) := by decide +kernel
theorem dX7_callerDigest_72 : decode cX7_callerDigest 72 = .ok (.lload 4, 2) := by decide +kernel
theorem dX7_callerDigest_74 : decode cX7_callerDigest 74 = .ok (.lmul, 1) := by decide +kernel
theorem dX7_callerDigest_75 : decode cX7_callerDigest 75 = .ok (.aload_n 0, 1) := by decide +kernel
theorem dX7_callerDigest_76 : decode cX7_callerDigest 76 = .ok (.bipush 23, 2) := by decide +kernel
theorem dX7_callerDigest_78 : decode cX7_callerDigest 78 = .ok (.iload_n 3, 1) := by decide +kernel
theorem dX7_callerDigest_79 : decode cX7_callerDigest 79 = .ok (.invokevirtual 214, 3) := by decide +kernel
theorem dX7_callerDigest_82 : decode cX7_callerDigest 82 = .ok (.i2l, 1) := by decide +kernel
theorem dX7_callerDigest_83 : decode cX7_callerDigest 83 = .ok (.ladd, 1) := by decide +kernel
theorem dX7_callerDigest_84 : decode cX7_callerDigest 84 = .ok (.lstore 4, 2) := by decide +kernel
theorem dX7_callerDigest_86 : decode cX7_callerDigest 86 = .ok (.ldc2_w 325, 3) := by decide +kernel
theorem dX7_callerDigest_89 : decode cX7_callerDigest 89 = .ok (.lload 4, 2) := by decide +kernel
theorem dX7_callerDigest_91 : decode cX7_callerDigest 91 = .ok (.lmul, 1) := by decide +kernel
theorem dX7_callerDigest_92 : decode cX7_callerDigest 92 = .ok (.aload_n 0, 1) := by decide +kernel
theorem dX7_callerDigest_93 : decode cX7_callerDigest 93 = .ok (.iload_n 3, 1) := by decide +kernel
theorem dX7_callerDigest_94 : decode cX7_callerDigest 94 = .ok (.invokevirtual 217, 3) := by decide +kernel
theorem dX7_callerDigest_97 : decode cX7_callerDigest 97 = .ok (.i2l, 1) := by decide +kernel
theorem dX7_callerDigest_98 : decode cX7_callerDigest 98 = .ok (.ladd, 1) := by decide +kernel
theorem dX7_callerDigest_99 : decode cX7_callerDigest 99 = .ok (.lstore 4, 2) := by decide +kernel
theorem dX7_callerDigest_101 : decode cX7_callerDigest 101 = .ok (.ldc2_w 325, 3) := by decide +kernel
theorem dX7_callerDigest_104 : decode cX7_callerDigest 104 = .ok (.lload 4, 2) := by decide +kernel
theorem dX7_callerDigest_106 : decode cX7_callerDigest 106 = .ok (.lmul, 1) := by decide +kernel
theorem dX7_callerDigest_107 : decode cX7_callerDigest 107 = .ok (.aload_n 0, 1) := by decide +kernel
theorem dX7_callerDigest_108 : decode cX7_callerDigest 108 = .ok (.iload_n 3, 1) := by decide +kernel
theorem dX7_callerDigest_109 : decode cX7_callerDigest 109 = .ok (.invokevirtual 262, 3) := by decide +kernel
theorem dX7_callerDigest_112 : decode cX7_callerDigest 112 = .ok (.i2l, 1) := by decide +kernel
theorem dX7_callerDigest_113 : decode cX7_callerDigest 113 = .ok (.ladd, 1) := by decide +kernel
theorem dX7_callerDigest_114 : decode cX7_callerDigest 114 = .ok (.lstore 4, 2) := by decide +kernel
theorem dX7_callerDigest_116 : decode cX7_callerDigest 116 = .ok (.ldc2_w 325, 3) := by decide +kernel
theorem dX7_callerDigest_119 : decode cX7_callerDigest 119 = .ok (.lload 4, 2) := by decide +kernel
theorem dX7_callerDigest_121 : decode cX7_callerDigest 121 = .ok (.lmul, 1) := by decide +kernel
theorem dX7_callerDigest_122 : decode cX7_callerDigest 122 = .ok (.aload_n 0, 1) := by decide +kernel
theorem dX7_callerDigest_123 : decode cX7_callerDigest 123 = .ok (.iload_n 3, 1) := by decide +kernel
theorem dX7_callerDigest_124 : decode cX7_callerDigest 124 = .ok (.invokevirtual 284, 3) := by decide +kernel
theorem dX7_callerDigest_127 : decode cX7_callerDigest 127 = .ok (.i2l, 1) := by decide +kernel
theorem dX7_callerDigest_128 : decode cX7_callerDigest 128 = .ok (.ladd, 1) := by decide +kernel
theorem dX7_callerDigest_129 : decode cX7_callerDigest 129 = .ok (.lstore 4, 2) := by decide +kernel
theorem dX7_callerDigest_131 : decode cX7_callerDigest 131 = .ok (.ldc2_w 325, 3) := by decide +kernel
theorem dX7_callerDigest_134 : decode cX7_callerDigest 134 = .ok (.lload 4, 2) := by decide +kernel
theorem dX7_callerDigest_136 : decode cX7_callerDigest 136 = .ok (.lmul, 1) := by decide +kernel
theorem dX7_callerDigest_137 : decode cX7_callerDigest 137 = .ok (.aload_n 0, 1) := by decide +kernel
theorem dX7_callerDigest_138 : decode cX7_callerDigest 138 = .ok (.iload_n 3, 1) := by decide +kernel
theorem dX7_callerDigest_139 : decode cX7_callerDigest 139 = .ok (.invokevirtual 287, 3) := by decide +kernel
theorem dX7_callerDigest_142 : decode cX7_callerDigest 142 = .ok (.i2l, 1) := by decide +kernel
theorem dX7_callerDigest_143 : decode cX7_callerDigest 143 = .ok (.ladd, 1) := by decide +kernel
theorem dX7_callerDigest_144 : decode cX7_callerDigest 144 = .ok (.lstore 4, 2) := by decide +kernel
theorem dX7_callerDigest_146 : decode cX7_callerDigest 146 = .ok (.ldc2_w 325, 3) := by decide +kernel
theorem dX7_callerDigest_149 : decode cX7_callerDigest 149 = .ok (.lload 4, 2) := by decide +kernel
theorem dX7_callerDigest_151 : decode cX7_callerDigest 151 = .ok (.lmul, 1) := by decide +kernel
theorem dX7_callerDigest_152 : decode cX7_callerDigest 152 = .ok (.aload_n 0, 1) := by decide +kernel
theorem dX7_callerDigest_153 : decode cX7_callerDigest 153 = .ok (.iload_n 3, 1) := by decide +kernel
theorem dX7_callerDigest_154 : decode cX7_callerDigest 154 = .ok (.invokevirtual 290, 3) := by decide +kernel
theorem dX7_callerDigest_157 : decode cX7_callerDigest 157 = .ok (.i2l, 1) := by decide +kernel
theorem dX7_callerDigest_158 : decode cX7_callerDigest 158 = .ok (.ladd, 1) := by decide +kernel
theorem dX7_callerDigest_159 : decode cX7_callerDigest 159 = .ok (.lstore 4, 2) := by decide +kernel
theorem dX7_callerDigest_161 : decode cX7_callerDigest 161 = .ok (.ldc2_w 325, 3) := by decide +kernel
theorem dX7_callerDigest_164 : decode cX7_callerDigest 164 = .ok (.lload 4, 2) := by decide +kernel
theorem dX7_callerDigest_166 : decode cX7_callerDigest 166 = .ok (.lmul, 1) := by decide +kernel
theorem dX7_callerDigest_167 : decode cX7_callerDigest 167 = .ok (.aload_n 0, 1) := by decide +kernel
theorem dX7_callerDigest_168 : decode cX7_callerDigest 168 = .ok (.iconst 5, 1) := by decide +kernel
theorem dX7_callerDigest_169 : decode cX7_callerDigest 169 = .ok (.iload_n 3, 1) := by decide +kernel
theorem dX7_callerDigest_170 : decode cX7_callerDigest 170 = .ok (.iconst 0, 1) := by decide +kernel
theorem dX7_callerDigest_171 : decode cX7_callerDigest 171 = .ok (.invokevirtual 297, 3) := by decide +kernel
theorem dX7_callerDigest_174 : decode cX7_callerDigest 174 = .ok (.ladd, 1) := by decide +kernel
theorem dX7_callerDigest_175 : decode cX7_callerDigest 175 = .ok (.lstore 4, 2) := by decide +kernel
theorem dX7_callerDigest_177 : decode cX7_callerDigest 177 = .ok (.ldc2_w 325, 3) := by decide +kernel
theorem dX7_callerDigest_180 : decode cX7_callerDigest 180 = .ok (.lload 4, 2) := by decide +kernel
theorem dX7_callerDigest_182 : decode cX7_callerDigest 182 = .ok (.lmul, 1) := by decide +kernel
theorem dX7_callerDigest_183 : decode cX7_callerDigest 183 = .ok (.aload_n 0, 1) := by decide +kernel
theorem dX7_callerDigest_184 : decode cX7_callerDigest 184 = .ok (.iconst 5, 1) := by decide +kernel
theorem dX7_callerDigest_185 : decode cX7_callerDigest 185 = .ok (.iload_n 3, 1) := by decide +kernel
theorem dX7_callerDigest_186 : decode cX7_callerDigest 186 = .ok (.iconst 1, 1) := by decide +kernel
theorem dX7_callerDigest_187 : decode cX7_callerDigest 187 = .ok (.invokevirtual 297, 3) := by decide +kernel
theorem dX7_callerDigest_190 : decode cX7_callerDigest 190 = .ok (.ladd, 1) := by decide +kernel
theorem dX7_callerDigest_191 : decode cX7_callerDigest 191 = .ok (.lreturn, 1) := by decide +kernel
theorem dX7_digest_0 : decode cX7_digest 0 = .ok (.ldc2_w 327, 3) := by decide +kernel
theorem dX7_digest_3 : decode cX7_digest 3 = .ok (.lstore_n 1, 1) := by decide +kernel
theorem dX7_digest_4 : decode cX7_digest 4 = .ok (.iconst 0, 1) := by decide +kernel
theorem dX7_digest_5 : decode cX7_digest 5 = .ok (.istore_n 3, 1) := by decide +kernel
theorem dX7_digest_6 : decode cX7_digest 6 = .ok (.iload_n 3, 1) := by decide +kernel
theorem dX7_digest_7 : decode cX7_digest 7 = .ok (.bipush 8, 2) := by decide +kernel
theorem dX7_digest_9 : decode cX7_digest 9 = .ok (.if_icmp .ge 22, 3) := by decide +kernel
theorem dX7_digest_12 : decode cX7_digest 12 = .ok (.ldc2_w 325, 3) := by decide +kernel
theorem dX7_digest_15 : decode cX7_digest 15 = .ok (.lload_n 1, 1) := by decide +kernel
theorem dX7_digest_16 : decode cX7_digest 16 = .ok (.lmul, 1) := by decide +kernel
theorem dX7_digest_17 : decode cX7_digest 17 = .ok (.aload_n 0, 1) := by decide +kernel
theorem dX7_digest_18 : decode cX7_digest 18 = .ok (.iload_n 3, 1) := by decide +kernel
theorem dX7_digest_19 : decode cX7_digest 19 = .ok (.invokevirtual 329, 3) := by decide +kernel
theorem dX7_digest_22 : decode cX7_digest 22 = .ok (.i2l, 1) := by decide +kernel
theorem dX7_digest_23 : decode cX7_digest 23 = .ok (.ladd, 1) := by decide +kernel
theorem dX7_digest_24 : decode cX7_digest 24 = .ok (.lstore_n 1, 1) := by decide +kernel
theorem dX7_digest_25 : decode cX7_digest 25 = .ok (.iinc 3 1, 3) := by decide +kernel
theorem dX7_digest_28 : decode cX7_digest 28 = .ok (.goto (-22), 3) := by decide +kernel
theorem dX7_digest_31 : decode cX7_digest 31 = .ok (.ldc2_w 325, 3) := by decide +kernel
theorem dX7_digest_34 : decode cX7_digest 34 = .ok (.lload_n 1, 1) := by decide +kernel
theorem dX7_digest_35 : decode cX7_digest 35 = .ok (.lmul, 1) := by decide +kernel
theorem dX7_digest_36 : decode cX7_digest 36 = .ok (.aload_n 0, 1) := by decide +kernel
theorem dX7_digest_37 : decode cX7_digest 37 = .ok (.iconst 0, 1) := by decide +kernel
theorem dX7_digest_38 : decode cX7_digest 38 = .ok (.invokevirtual 132, 3) := by decide +kernel
theorem dX7_digest_41 : decode cX7_digest 41 = .ok (.i2l, 1) := by decide +kernel
theorem dX7_digest_42 : decode cX7_digest 42 = .ok (.ladd, 1) := by decide +kernel
theorem dX7_digest_43 : decode cX7_digest 43 = .ok (.lstore_n 1, 1) := by decide +kernel
theorem dX7_digest_44 : decode cX7_digest 44 = .ok (.ldc2_w 325, 3) := by decide +kernel
theorem dX7_digest_47 : decode cX7_digest 47 = .ok (.lload_n 1, 1) := by decide +kernel
theorem dX7_digest_48 : decode cX7_digest 48 = .ok (.lmul, 1) := by decide +kernel
theorem dX7_digest_49 : decode cX7_digest 49 = .ok (.aload_n 0, 1) := by decide +kernel
theorem dX7_digest_50 : decode cX7_digest 50 = .ok (.iconst 1, 1) := by decide +kernel
theorem dX7_digest_51 : decode cX7_digest 51 = .ok (.invokevirtual 132, 3) := by decide +kernel
theorem dX7_digest_54 : decode cX7_digest 54 = .ok (.i2l, 1) := by decide +kernel
theorem dX7_digest_55 : decode cX7_digest 55 = .ok (.ladd, 1) := by decide +kernel
theorem dX7_digest_56 : decode cX7_digest 56 = .ok (.lstore_n 1, 1) := by decide +kernel
theorem dX7_digest_57 : decode cX7_digest 57 = .ok (.iconst 0, 1) := by decide +kernel
theorem dX7_digest_58 : decode cX7_digest 58 = .ok (.istore_n 3, 1) := by decide +kernel
theorem dX7_digest_59 : decode cX7_digest 59 = .ok (.iload_n 3, 1) := by decide +kernel
theorem dX7_digest_60 : decode cX7_digest 60 = .ok (.aload_n 0, 1) := by decide +kernel
theorem dX7_digest_61 : decode cX7_digest 61 = .ok (.getfield 120, 3) := by decide +kernel
theorem dX7_digest_64 : decode cX7_digest 64 = .ok (.if_icmp .ge 16, 3) := by decide +kernel
theorem dX7_digest_67 : decode cX7_digest 67 = .ok (.aload_n 0, 1) := by decide +kernel
theorem dX7_digest_68 : decode cX7_digest 68 = .ok (.lload_n 1, 1) := by decide +kernel
theorem dX7_digest_69 : decode cX7_digest 69 = .ok (.iload_n 3, 1) := by decide +kernel
theorem dX7_digest_70 : decode cX7_digest 70 = .ok (.invokevirtual 332, 3) := by decide +kernel
theorem dX7_digest_73 : decode cX7_digest 73 = .ok (.lstore_n 1, 1) := by decide +kernel
theorem dX7_digest_74 : decode cX7_digest 74 = .ok (.iinc 3 1, 3) := by decide +kernel
theorem dX7_digest_77 : decode cX7_digest 77 = .ok (.goto (-18), 3) := by decide +kernel
theorem dX7_digest_80 : decode cX7_digest 80 = .ok (.iconst 0, 1) := by decide +kernel
theorem dX7_digest_81 : decode cX7_digest 81 = .ok (.istore_n 3, 1) := by decide +kernel
theorem dX7_digest_82 : decode cX7_digest 82 = .ok (.iload_n 3, 1) := by decide +kernel
theorem dX7_digest_83 : decode cX7_digest 83 = .ok (.aload_n 0, 1) := by decide +kernel
theorem dX7_digest_84 : decode cX7_digest 84 = .ok (.getfield 116, 3) := by decide +kernel
theorem dX7_digest_87 : decode cX7_digest 87 = .ok (.if_icmp .ge 16, 3) := by decide +kernel
theorem dX7_digest_90 : decode cX7_digest 90 = .ok (.aload_n 0, 1) := by decide +kernel
theorem dX7_digest_91 : decode cX7_digest 91 = .ok (.lload_n 1, 1) := by decide +kernel
theorem dX7_digest_92 : decode cX7_digest 92 = .ok (.iload_n 3, 1) := by decide +kernel
theorem dX7_digest_93 : decode cX7_digest 93 = .ok (.invokevirtual 336, 3) := by decide +kernel
theorem dX7_digest_96 : decode cX7_digest 96 = .ok (.lstore_n 1, 1) := by decide +kernel
theorem dX7_digest_97 : decode cX7_digest 97 = .ok (.iinc 3 1, 3) := by decide +kernel
theorem dX7_digest_100 : decode cX7_digest 100 = .ok (.goto (-18), 3) := by decide +kernel
theorem dX7_digest_103 : decode cX7_digest 103 = .ok (.iconst 0, 1) := by decide +kernel
theorem dX7_digest_104 : decode cX7_digest 104 = .ok (.istore_n 3, 1) := by decide +kernel
theorem dX7_digest_105 : decode cX7_digest 105 = .ok (.iload_n 3, 1) := by decide +kernel
theorem dX7_digest_106 : decode cX7_digest 106 = .ok (.bipush 24, 2) := by decide +kernel
theorem dX7_digest_108 : decode cX7_digest 108 = .ok (.if_icmp .ge 52, 3) := by decide +kernel
theorem dX7_digest_111 : decode cX7_digest 111 = .ok (.iconst 0, 1) := by decide +kernel
theorem dX7_digest_112 : decode cX7_digest 112 = .ok (.istore 4, 2) := by decide +kernel
theorem dX7_digest_114 : decode cX7_digest 114 = .ok (.iload 4, 2) := by decide +kernel
theorem dX7_digest_116 : decode cX7_digest 116 = .ok (.iconst 3, 1) := by decide +kernel
theorem dX7_digest_117 : decode cX7_digest 117 = .ok (.if_icmp .ge 24, 3) := by decide +kernel
theorem dX7_digest_120 : decode cX7_digest 120 = .ok (.ldc2_w 325, 3) := by decide +kernel
theorem dX7_digest_123 : decode cX7_digest 123 = .ok (.lload_n 1, 1) := by decide +kernel
theorem dX7_digest_124 : decode cX7_digest 124 = .ok (.lmul, 1) := by decide +kernel
theorem dX7_digest_125 : decode cX7_digest 125 = .ok (.aload_n 0, 1) := by decide +kernel
theorem dX7_digest_126 : decode cX7_digest 126 = .ok (.iload_n 3, 1) := by decide +kernel
theorem dX7_digest_127 : decode cX7_digest 127 = .ok (.iload 4, 2) := by decide +kernel
theorem dX7_digest_129 : decode cX7_digest 129 = .ok (.invokevirtual 220, 3) := by decide +kernel
theorem dX7_digest_132 : decode cX7_digest 132 = .ok (.i2l, 1) := by decide +kernel
theorem dX7_digest_133 : decode cX7_digest 133 = .ok (.ladd, 1) := by decide +kernel
theorem dX7_digest_134 : decode cX7_digest 134 = .ok (.lstore_n 1, 1) := by decide +kernel
theorem dX7_digest_135 : decode cX7_digest 135 = .ok (.iinc 4 1, 3) := by decide +kernel
theorem dX7_digest_138 : decode cX7_digest 138 = .ok (.goto (-24), 3) := by decide +kernel
theorem dX7_digest_141 : decode cX7_digest 141 = .ok (.ldc2_w 325, 3) := by decide +kernel
theorem dX7_digest_144 : decode cX7_digest 144 = .ok (.lload_n 1, 1) := by decide +kernel
theorem dX7_digest_145 : decode cX7_digest 145 = .ok (.lmul, 1) := by decide +kernel
theorem dX7_digest_146 : decode cX7_digest 146 = .ok (.aload_n 0, 1) := by decide +kernel
theorem dX7_digest_147 : decode cX7_digest 147 = .ok (.iload_n 3, 1) := by decide +kernel
theorem dX7_digest_148 : decode cX7_digest 148 = .ok (.invokevirtual 223, 3) := by decide +kernel
theorem dX7_digest_151 : decode cX7_digest 151 = .ok (.i2l, 1) := by decide +kernel
theorem dX7_digest_152 : decode cX7_digest 152 = .ok (.ladd, 1) := by decide +kernel
theorem dX7_digest_153 : decode cX7_digest 153 = .ok (.lstore_n 1, 1) := by decide +kernel
theorem dX7_digest_154 : decode cX7_digest 154 = .ok (.iinc 3 1, 3) := by decide +kernel
theorem dX7_digest_157 : decode cX7_digest 157 = .ok (.goto (-52), 3) := by decide +kernel
theorem dX7_digest_160 : decode cX7_digest 160 = .ok (.ldc2_w 325, 3) := by decide +kernel
theorem dX7_digest_163 : decode cX7_digest 163 = .ok (.lload_n 1, 1) := by decide +kernel
theorem dX7_digest_164 : decode cX7_digest 164 = .ok (.lmul, 1) := by decide +kernel
theorem dX7_digest_165 : decode cX7_digest 165 = .ok (.aload_n 0, 1) := by decide +kernel
theorem dX7_digest_166 : decode cX7_digest 166 = .ok (.invokevirtual 227, 3) := by decide +kernel
theorem dX7_digest_169 : decode cX7_digest 169 = .ok (.i2l, 1) := by decide +kernel
theorem dX7_digest_170 : decode cX7_digest 170 = .ok (.ladd, 1) := by decide +kernel
theorem dX7_digest_171 : decode cX7_digest 171 = .ok (.lstore_n 1, 1) := by decide +kernel
theorem dX7_digest_172 : decode cX7_digest 172 = .ok (.ldc2_w 325, 3) := by decide +kernel
theorem dX7_digest_175 : decode cX7_digest 175 = .ok (.lload_n 1, 1) := by decide +kernel
theorem dX7_digest_176 : decode cX7_digest 176 = .ok (.lmul, 1) := by decide +kernel
theorem dX7_digest_177 : decode cX7_digest 177 = .ok (.aload_n 0, 1) := by decide +kernel
theorem dX7_digest_178 : decode cX7_digest 178 = .ok (.iconst 0, 1) := by decide +kernel
theorem dX7_digest_179 : decode cX7_digest 179 = .ok (.invokevirtual 234, 3) := by decide +kernel
theorem dX7_digest_182 : decode cX7_digest 182 = .ok (.i2l, 1) := by decide +kernel
theorem dX7_digest_183 : decode cX7_digest 183 = .ok (.ladd, 1) := by decide +kernel
theorem dX7_digest_184 : decode cX7_digest 184 = .ok (.lstore_n 1, 1) := by decide +kernel
theorem dX7_digest_185 : decode cX7_digest 185 = .ok (.ldc2_w 325, 3) := by decide +kernel
theorem dX7_digest_188 : decode cX7_digest 188 = .ok (.lload_n 1, 1) := by decide +kernel
theorem dX7_digest_189 : decode cX7_digest 189 = .ok (.lmul, 1) := by decide +kernel
theorem dX7_digest_190 : decode cX7_digest 190 = .ok (.aload_n 0, 1) := by decide +kernel
theorem dX7_digest_191 : decode cX7_digest 191 = .ok (.iconst 1, 1) := by decide +kernel
theorem dX7_digest_192 : decode cX7_digest 192 = .ok (.invokevirtual 234, 3) := by decide +kernel
theorem dX7_digest_195 : decode cX7_digest 195 = .ok (.i2l, 1) := by decide +kernel
theorem dX7_digest_196 : decode cX7_digest 196 = .ok (.ladd, 1) := by decide +kernel
theorem dX7_digest_197 : decode cX7_digest 197 = .ok (.lstore_n 1, 1) := by decide +kernel
theorem dX7_digest_198 : decode cX7_digest 198 = .ok (.ldc2_w 325, 3) := by decide +kernel
theorem dX7_digest_201 : decode cX7_digest 201 = .ok (.lload_n 1, 1) := by decide +kernel
theorem dX7_digest_202 : decode cX7_digest 202 = .ok (.lmul, 1) := by decide +kernel
theorem dX7_digest_203 : decode cX7_digest 203 = .ok (.aload_n 0, 1) := by decide +kernel
theorem dX7_digest_204 : decode cX7_digest 204 = .ok (.invokevirtual 240, 3) := by decide +kernel
theorem dX7_digest_207 : decode cX7_digest 207 = .ok (.i2l, 1) := by decide +kernel
theorem dX7_digest_208 : decode cX7_digest 208 = .ok (.ladd, 1) := by decide +kernel
theorem dX7_digest_209 : decode cX7_digest 209 = .ok (.lstore_n 1, 1) := by decide +kernel
theorem dX7_digest_210 : decode cX7_digest 210 = .ok (.ldc2_w 325, 3) := by decide +kernel
theorem dX7_digest_213 : decode cX7_digest 213 = .ok (.lload_n 1, 1) := by decide +kernel
theorem dX7_digest_214 : decode cX7_digest 214 = .ok (.lmul, 1) := by decide +kernel
theorem dX7_digest_215 : decode cX7_digest 215 = .ok (.aload_n 0, 1) := by decide +kernel
theorem dX7_digest_216 : decode cX7_digest 216 = .ok (.invokevirtual 243, 3) := by decide +kernel
theorem dX7_digest_219 : decode cX7_digest 219 = .ok (.i2l, 1) := by decide +kernel
theorem dX7_digest_220 : decode cX7_digest 220 = .ok (.ladd, 1) := by decide +kernel
theorem dX7_digest_221 : decode cX7_digest 221 = .ok (.lstore_n 1, 1) := by decide +kernel
theorem dX7_digest_222 : decode cX7_digest 222 = .ok (.ldc2_w 325, 3) := by decide +kernel
theorem dX7_digest_225 : decode cX7_digest 225 = .ok (.lload_n 1, 1) := by decide +kernel
theorem dX7_digest_226 : decode cX7_digest 226 = .ok (.lmul, 1) := by decide +kernel
theorem dX7_digest_227 : decode cX7_digest 227 = .ok (.aload_n 0, 1) := by decide +kernel
theorem dX7_digest_228 : decode cX7_digest 228 = .ok (.invokevirtual 249, 3) := by decide +kernel
theorem dX7_digest_231 : decode cX7_digest 231 = .ok (.i2l, 1) := by decide +kernel
theorem dX7_digest_232 : decode cX7_digest 232 = .ok (.ladd, 1) := by decide +kernel
theorem dX7_digest_233 : decode cX7_digest 233 = .ok (.lstore_n 1, 1) := by decide +kernel
theorem dX7_digest_234 : decode cX7_digest 234 = .ok (.ldc2_w 325, 3) := by decide +kernel
theorem dX7_digest_237 : decode cX7_digest 237 = .ok (.lload_n 1, 1) := by decide +kernel
theorem dX7_digest_238 : decode cX7_digest 238 = .ok (.lmul, 1) := by decide +kernel
theorem dX7_digest_239 : decode cX7_digest 239 = .ok (.aload_n 0, 1) := by decide +kernel
theorem dX7_digest_240 : decode cX7_digest 240 = .ok (.bipush 8, 2) := by decide +kernel
theorem dX7_digest_242 : decode cX7_digest 242 = .ok (.iconst 0, 1) := by decide +kernel
theorem dX7_digest_243 : decode cX7_digest 243 = .ok (.invokevirtual 253, 3) := by decide +kernel
theorem dX7_digest_246 : decode cX7_digest 246 = .ok (.i2l, 1) := by decide +kernel
theorem dX7_digest_247 : decode cX7_digest 247 = .ok (.ladd, 1) := by decide +kernel
theorem dX7_digest_248 : decode cX7_digest 248 = .ok (.lstore_n 1, 1) := by decide +kernel
theorem dX7_digest_249 : decode cX7_digest 249 = .ok (.ldc2_w 325, 3) := by decide +kernel
theorem dX7_digest_252 : decode cX7_digest 252 = .ok (.lload_n 1, 1) := by decide +kernel
theorem dX7_digest_253 : decode cX7_digest 253 = .ok (.lmul, 1) := by decide +kernel
theorem dX7_digest_254 : decode cX7_digest 254 = .ok (.aload_n 0, 1) := by decide +kernel
theorem dX7_digest_255 : decode cX7_digest 255 = .ok (.bipush 8, 2) := by decide +kernel
theorem dX7_digest_257 : decode cX7_digest 257 = .ok (.iconst 1, 1) := by decide +kernel
theorem dX7_digest_258 : decode cX7_digest 258 = .ok (.invokevirtual 253, 3) := by decide +kernel
theorem dX7_digest_261 : decode cX7_digest 261 = .ok (.i2l, 1) := by decide +kernel
theorem dX7_digest_262 : decode cX7_digest 262 = .ok (.ladd, 1) := by decide +kernel
theorem dX7_digest_263 : decode cX7_digest 263 = .ok (.lstore_n 1, 1) := by decide +kernel
theorem dX7_digest_264 : decode cX7_digest 264 = .ok (.aload_n 0, 1) := by decide +kernel
theorem dX7_digest_265 : decode cX7_digest 265 = .ok (.invokevirtual 268, 3) := by decide +kernel
theorem dX7_digest_268 : decode cX7_digest 268 = .ok (.istore_n 3, 1) := by decide +kernel
theorem dX7_digest_269 : decode cX7_digest 269 = .ok (.ldc2_w 325, 3) := by decide +kernel
theorem dX7_digest_272 : decode cX7_digest 272 = .ok (.lload_n 1, 1) := by decide +kernel
theorem dX7_digest_273 : decode cX7_digest 273 = .ok (.lmul, 1) := by decide +kernel
theorem dX7_digest_274 : decode cX7_digest 274 = .ok (.iload_n 3, 1) := by decide +kernel
theorem dX7_digest_275 : decode cX7_digest 275 = .ok (.i2l, 1) := by decide +kernel
theorem dX7_digest_276 : decode cX7_digest 276 = .ok (.ladd, 1) := by decide +kernel
theorem dX7_digest_277 : decode cX7_digest 277 = .ok (.lstore_n 1, 1) := by decide +kernel
theorem dX7_digest_278 : decode cX7_digest 278 = .ok (.ldc2_w 325, 3) := by decide +kernel
theorem dX7_digest_281 : decode cX7_digest 281 = .ok (.lload_n 1, 1) := by decide +kernel
theorem dX7_digest_282 : decode cX7_digest 282 = .ok (.lmul, 1) := by decide +kernel
theorem dX7_digest_283 : decode cX7_digest 283 = .ok (.aload_n 0, 1) := by decide +kernel
theorem dX7_digest_284 : decode cX7_digest 284 = .ok (.iload_n 3, 1) := by decide +kernel
theorem dX7_digest_285 : decode cX7_digest 285 = .ok (.iconst 0, 1) := by decide +kernel
theorem dX7_digest_286 : decode cX7_digest 286 = .ok (.invokevirtual 271, 3) := by decide +kernel
theorem dX7_digest_289 : decode cX7_digest 289 = .ok (.i2l, 1) := by decide +kernel
theorem dX7_digest_290 : decode cX7_digest 290 = .ok (.ladd, 1) := by decide +kernel
theorem dX7_digest_291 : decode cX7_digest 291 = .ok (.lstore_n 1, 1) := by decide +kernel
theorem dX7_digest_292 : decode cX7_digest 292 = .ok (.ldc2_w 325, 3) := by decide +kernel
theorem dX7_digest_295 : decode cX7_digest 295 = .ok (.lload_n 1, 1) := by decide +kernel
theorem dX7_digest_296 : decode cX7_digest 296 = .ok (.lmul, 1) := by decide +kernel
theorem dX7_digest_297 : decode cX7_digest 297 = .ok (.aload_n 0, 1) := by decide +kernel
theorem dX7_digest_298 : decode cX7_digest 298 = .ok (.invokevirtual 281, 3) := by decide +kernel
theorem dX7_digest_301 : decode cX7_digest 301 = .ok (.i2l, 1) := by decide +kernel
theorem dX7_digest_302 : decode cX7_digest 302 = .ok (.ladd, 1) := by decide +kernel
theorem dX7_digest_303 : decode cX7_digest 303 = .ok (.lstore_n 1, 1) := by decide +kernel
theorem dX7_digest_304 : decode cX7_digest 304 = .ok (.ldc2_w 325, 3) := by decide +kernel
theorem dX7_digest_307 : decode cX7_digest 307 = .ok (.lload_n 1, 1) := by decide +kernel
theorem dX7_digest_308 : decode cX7_digest 308 = .ok (.lmul, 1) := by decide +kernel
theorem dX7_digest_309 : decode cX7_digest 309 = .ok (.aload_n 0, 1) := by decide +kernel
theorem dX7_digest_310 : decode cX7_digest 310 = .ok (.bipush 7, 2) := by decide +kernel
theorem dX7_digest_312 : decode cX7_digest 312 = .ok (.bipush 6, 2) := by decide +kernel
theorem dX7_digest_314 : decode cX7_digest 314 = .ok (.iconst 0, 1) := by decide +kernel
theorem dX7_digest_315 : decode cX7_digest 315 = .ok (.invokevirtual 306, 3) := by decide +kernel
theorem dX7_digest_318 : decode cX7_digest 318 = .ok (.i2l, 1) := by decide +kernel
theorem dX7_digest_319 : decode cX7_digest 319 = .ok (.ladd, 1) := by decide +kernel
theorem dX7_digest_320 : decode cX7_digest 320 = .ok (.lstore_n 1, 1) := by decide +kernel
theorem dX7_digest_321 : decode cX7_digest 321 = .ok (.ldc2_w 325, 3) := by decide +kernel
theorem dX7_digest_324 : decode cX7_digest 324 = .ok (.lload_n 1, 1) := by decide +kernel
theorem dX7_digest_325 : decode cX7_digest 325 = .ok (.lmul, 1) := by decide +kernel
theorem dX7_digest_326 : decode cX7_digest 326 = .ok (.aload_n 0, 1) := by decide +kernel
theorem dX7_digest_327 : decode cX7_digest 327 = .ok (.bipush 7, 2) := by decide +kernel
theorem dX7_digest_329 : decode cX7_digest 329 = .ok (.bipush 6, 2) := by decide +kernel
theorem dX7_digest_331 : decode cX7_digest 331 = .ok (.iconst 1, 1) := by decide +kernel
theorem dX7_digest_332 : decode cX7_digest 332 = .ok (.invokevirtual 306, 3) := by decide +kernel
theorem dX7_digest_335 : decode cX7_digest 335 = .ok (.i2l, 1) := by decide +kernel
theorem dX7_digest_336 : decode cX7_digest 336 = .ok (.ladd, 1) := by decide +kernel
theorem dX7_digest_337 : decode cX7_digest 337 = .ok (.lreturn, 1) := by decide +kernel
theorem dJ6_bitCount_0f7a4_0 : decode cJ6_bitCount_0f7a4 0 = .ok (.iload_n 0, 1) := by decide +kernel
theorem dJ6_bitCount_0f7a4_1 : decode cJ6_bitCount_0f7a4 1 = .ok (.iload_n 0, 1) := by decide +kernel
theorem dJ6_bitCount_0f7a4_2 : decode cJ6_bitCount_0f7a4 2 = .ok (.iconst 1, 1) := by decide +kernel
theorem dJ6_bitCount_0f7a4_3 : decode cJ6_bitCount_0f7a4 3 = .ok (.iushr, 1) := by decide +kernel
theorem dJ6_bitCount_0f7a4_4 : decode cJ6_bitCount_0f7a4 4 = .ok (.ldc_w 265, 3) := by decide +kernel
theorem dJ6_bitCount_0f7a4_7 : decode cJ6_bitCount_0f7a4 7 = .ok (.iand, 1) := by decide +kernel
theorem dJ6_bitCount_0f7a4_8 : decode cJ6_bitCount_0f7a4 8 = .ok (.isub, 1) := by decide +kernel
theorem dJ6_bitCount_0f7a4_9 : decode cJ6_bitCount_0f7a4 9 = .ok (.istore_n 0, 1) := by decide +kernel
theorem dJ6_bitCount_0f7a4_10 : decode cJ6_bitCount_0f7a4 10 = .ok (.iload_n 0, 1) := by decide +kernel
theorem dJ6_bitCount_0f7a4_11 : decode cJ6_bitCount_0f7a4 11 = .ok (.ldc_w 266, 3) := by decide +kernel
theorem dJ6_bitCount_0f7a4_14 : decode cJ6_bitCount_0f7a4 14 = .ok (.iand, 1) := by decide +kernel
theorem dJ6_bitCount_0f7a4_15 : decode cJ6_bitCount_0f7a4 15 = .ok (.iload_n 0, 1) := by decide +kernel
theorem dJ6_bitCount_0f7a4_16 : decode cJ6_bitCount_0f7a4 16 = .ok (.iconst 2, 1) := by decide +kernel
theorem dJ6_bitCount_0f7a4_17 : decode cJ6_bitCount_0f7a4 17 = .ok (.iushr, 1) := by decide +kernel
theorem dJ6_bitCount_0f7a4_18 : decode cJ6_bitCount_0f7a4 18 = .ok (.ldc_w 266, 3) := by decide +kernel
theorem dJ6_bitCount_0f7a4_21 : decode cJ6_bitCount_0f7a4 21 = .ok (.iand, 1) := by decide +kernel
theorem dJ6_bitCount_0f7a4_22 : decode cJ6_bitCount_0f7a4 22 = .ok (.iadd, 1) := by decide +kernel
theorem dJ6_bitCount_0f7a4_23 : decode cJ6_bitCount_0f7a4 23 = .ok (.istore_n 0, 1) := by decide +kernel
theorem dJ6_bitCount_0f7a4_24 : decode cJ6_bitCount_0f7a4 24 = .ok (.iload_n 0, 1) := by decide +kernel
theorem dJ6_bitCount_0f7a4_25 : decode cJ6_bitCount_0f7a4 25 = .ok (.iload_n 0, 1) := by decide +kernel
theorem dJ6_bitCount_0f7a4_26 : decode cJ6_bitCount_0f7a4 26 = .ok (.iconst 4, 1) := by decide +kernel
theorem dJ6_bitCount_0f7a4_27 : decode cJ6_bitCount_0f7a4 27 = .ok (.iushr, 1) := by decide +kernel
theorem dJ6_bitCount_0f7a4_28 : decode cJ6_bitCount_0f7a4 28 = .ok (.iadd, 1) := by decide +kernel
theorem dJ6_bitCount_0f7a4_29 : decode cJ6_bitCount_0f7a4 29 = .ok (.ldc_w 267, 3) := by decide +kernel
theorem dJ6_bitCount_0f7a4_32 : decode cJ6_bitCount_0f7a4 32 = .ok (.iand, 1) := by decide +kernel
theorem dJ6_bitCount_0f7a4_33 : decode cJ6_bitCount_0f7a4 33 = .ok (.istore_n 0, 1) := by decide +kernel
theorem dJ6_bitCount_0f7a4_34 : decode cJ6_bitCount_0f7a4 34 = .ok (.iload_n 0, 1) := by decide +kernel
theorem dJ6_bitCount_0f7a4_35 : decode cJ6_bitCount_0f7a4 35 = .ok (.iload_n 0, 1) := by decide +kernel
theorem dJ6_bitCount_0f7a4_36 : decode cJ6_bitCount_0f7a4 36 = .ok (.bipush 8, 2) := by decide +kernel
theorem dJ6_bitCount_0f7a4_38 : decode cJ6_bitCount_0f7a4 38 = .ok (.iushr, 1) := by decide +kernel
theorem dJ6_bitCount_0f7a4_39 : decode cJ6_bitCount_0f7a4 39 = .ok (.iadd, 1) := by decide +kernel
theorem dJ6_bitCount_0f7a4_40 : decode cJ6_bitCount_0f7a4 40 = .ok (.istore_n 0, 1) := by decide +kernel
theorem dJ6_bitCount_0f7a4_41 : decode cJ6_bitCount_0f7a4 41 = .ok (.iload_n 0, 1) := by decide +kernel
theorem dJ6_bitCount_0f7a4_42 : decode cJ6_bitCount_0f7a4 42 = .ok (.iload_n 0, 1) := by decide +kernel
theorem dJ6_bitCount_0f7a4_43 : decode cJ6_bitCount_0f7a4 43 = .ok (.bipush 16, 2) := by decide +kernel
theorem dJ6_bitCount_0f7a4_45 : decode cJ6_bitCount_0f7a4 45 = .ok (.iushr, 1) := by decide +kernel
theorem dJ6_bitCount_0f7a4_46 : decode cJ6_bitCount_0f7a4 46 = .ok (.iadd, 1) := by decide +kernel
theorem dJ6_bitCount_0f7a4_47 : decode cJ6_bitCount_0f7a4 47 = .ok (.istore_n 0, 1) := by decide +kernel
theorem dJ6_bitCount_0f7a4_48 : decode cJ6_bitCount_0f7a4 48 = .ok (.iload_n 0, 1) := by decide +kernel
theorem dJ6_bitCount_0f7a4_49 : decode cJ6_bitCount_0f7a4 49 = .ok (.bipush 63, 2) := by decide +kernel
theorem dJ6_bitCount_0f7a4_51 : decode cJ6_bitCount_0f7a4 51 = .ok (.iand, 1) := by decide +kernel
theorem dJ6_bitCount_0f7a4_52 : decode cJ6_bitCount_0f7a4 52 = .ok (.ireturn, 1) := by decide +kernel
theorem dJ9_max_7cf53_0 : decode cJ9_max_7cf53 0 = .ok (.iload_n 0, 1) := by decide +kernel
theorem dJ9_max_7cf53_1 : decode cJ9_max_7cf53 1 = .ok (.iload_n 1, 1) := by decide +kernel
theorem dJ9_max_7cf53_2 : decode cJ9_max_7cf53 2 = .ok (.if_icmp .lt 7, 3) := by decide +kernel
theorem dJ9_max_7cf53_5 : decode cJ9_max_7cf53 5 = .ok (.iload_n 0, 1) := by decide +kernel
theorem dJ9_max_7cf53_6 : decode cJ9_max_7cf53 6 = .ok (.goto 4, 3) := by decide +kernel
theorem dJ9_max_7cf53_9 : decode cJ9_max_7cf53 9 = .ok (.iload_n 1, 1) := by decide +kernel
theorem dJ9_max_7cf53_10 : decode cJ9_max_7cf53 10 = .ok (.ireturn, 1) := by decide +kernel
theorem dJ9_min_7cf53_0 : decode cJ9_min_7cf53 0 = .ok (.iload_n 0, 1) := by decide +kernel
theorem dJ9_min_7cf53_1 : decode cJ9_min_7cf53 1 = .ok (.iload_n 1, 1) := by decide +kernel
theorem dJ9_min_7cf53_2 : decode cJ9_min_7cf53 2 = .ok (.if_icmp .gt 7, 3) := by decide +kernel
theorem dJ9_min_7cf53_5 : decode cJ9_min_7cf53 5 = .ok (.iload_n 0, 1) := by decide +kernel
theorem dJ9_min_7cf53_6 : decode cJ9_min_7cf53 6 = .ok (.goto 4, 3) := by decide +kernel
theorem dJ9_min_7cf53_9 : decode cJ9_min_7cf53 9 = .ok (.iload_n 1, 1) := by decide +kernel
theorem dJ9_min_7cf53_10 : decode cJ9_min_7cf53 10 = .ok (.ireturn, 1) := by decide +kernel
