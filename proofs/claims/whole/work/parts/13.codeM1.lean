/-! by program (wip/whole/gen_code.py): records, stretches, decode facts -/
theorem M_isIn_s0 : zseg (zown M_isIn) (zcode M_isIn) 0 [(.iload_n 1, 1, 0, 0, 0), (.iload_n 2, 1, 0, 0, 0)] 2 = true := by decide +kernel
theorem M_isIn_s5 : zseg (zown M_isIn) (zcode M_isIn) 5 [(.iload_n 1, 1, 0, 0, 0), (.iload_n 3, 1, 0, 0, 0)] 7 = true := by decide +kernel
theorem M_isIn_s10 : zseg (zown M_isIn) (zcode M_isIn) 10 [(.iconst 1, 1, 1, 0, 0), (.goto 4, 3, 0, 0, 0)] 15 = true := by decide +kernel
theorem M_isIn_s14 : zseg (zown M_isIn) (zcode M_isIn) 14 [(.iconst 0, 1, 0, 0, 0)] 15 = true := by decide +kernel
theorem M_isIn_d2 : decode (zcode M_isIn) 2 = .ok (.if_icmp .lt 12, 3) := by decide +kernel
theorem M_isIn_d7 : decode (zcode M_isIn) 7 = .ok (.if_icmp .gt 7, 3) := by decide +kernel
theorem M_isIn_d15 : decode (zcode M_isIn) 15 = .ok (.ireturn, 1) := by decide +kernel
theorem M_isBell_s0 : zseg (zown M_isBell) (zcode M_isBell) 0 [(.iload_n 1, 1, 0, 0, 0)] 1 = true := by decide +kernel
theorem M_isBell_s4 : zseg (zown M_isBell) (zcode M_isBell) 4 [(.iload_n 1, 1, 0, 0, 0), (.aload_n 0, 1, 0, 0, 0), (.getfield 106, 3, 0, 11, 0)] 9 = true := by decide +kernel
theorem M_isBell_s12 : zseg (zown M_isBell) (zcode M_isBell) 12 [(.iconst 1, 1, 1, 0, 0), (.goto 4, 3, 0, 0, 0)] 17 = true := by decide +kernel
theorem M_isBell_s16 : zseg (zown M_isBell) (zcode M_isBell) 16 [(.iconst 0, 1, 0, 0, 0)] 17 = true := by decide +kernel
theorem M_isBell_d1 : decode (zcode M_isBell) 1 = .ok (.ifCond .lt 15, 3) := by decide +kernel
theorem M_isBell_d9 : decode (zcode M_isBell) 9 = .ok (.if_icmp .ge 7, 3) := by decide +kernel
theorem M_isBell_d17 : decode (zcode M_isBell) 17 = .ok (.ireturn, 1) := by decide +kernel
theorem M_isVow_s0 : zseg (zown M_isVow) (zcode M_isVow) 0 [(.iload_n 1, 1, 0, 0, 0)] 1 = true := by decide +kernel
theorem M_isVow_s4 : zseg (zown M_isVow) (zcode M_isVow) 4 [(.iload_n 1, 1, 0, 0, 0), (.aload_n 0, 1, 0, 0, 0), (.getfield 109, 3, 0, 11, 1)] 9 = true := by decide +kernel
theorem M_isVow_s12 : zseg (zown M_isVow) (zcode M_isVow) 12 [(.iconst 1, 1, 1, 0, 0), (.goto 4, 3, 0, 0, 0)] 17 = true := by decide +kernel
theorem M_isVow_s16 : zseg (zown M_isVow) (zcode M_isVow) 16 [(.iconst 0, 1, 0, 0, 0)] 17 = true := by decide +kernel
theorem M_isVow_d1 : decode (zcode M_isVow) 1 = .ok (.ifCond .lt 15, 3) := by decide +kernel
theorem M_isVow_d9 : decode (zcode M_isVow) 9 = .ok (.if_icmp .ge 7, 3) := by decide +kernel
theorem M_isVow_d17 : decode (zcode M_isVow) 17 = .ok (.ireturn, 1) := by decide +kernel
theorem M_has_s0 : zseg (zown M_has) (zcode M_has) 0 [(.iload_n 1, 1, 0, 0, 0), (.iload_n 2, 1, 0, 0, 0), (.ishr, 1, 0, 0, 0), (.iconst 1, 1, 1, 0, 0), (.iand, 1, 0, 0, 0), (.iconst 1, 1, 1, 0, 0)] 6 = true := by decide +kernel
theorem M_has_s9 : zseg (zown M_has) (zcode M_has) 9 [(.iconst 1, 1, 1, 0, 0), (.goto 4, 3, 0, 0, 0)] 14 = true := by decide +kernel
theorem M_has_s13 : zseg (zown M_has) (zcode M_has) 13 [(.iconst 0, 1, 0, 0, 0)] 14 = true := by decide +kernel
theorem M_has_d6 : decode (zcode M_has) 6 = .ok (.if_icmp .ne 7, 3) := by decide +kernel
theorem M_has_d14 : decode (zcode M_has) 14 = .ok (.ireturn, 1) := by decide +kernel
theorem M_abs_s0 : zseg (zown M_abs) (zcode M_abs) 0 [(.iload_n 1, 1, 0, 0, 0)] 1 = true := by decide +kernel
theorem M_abs_s4 : zseg (zown M_abs) (zcode M_abs) 4 [(.iload_n 1, 1, 0, 0, 0), (.ineg, 1, 0, 0, 0), (.goto 4, 3, 0, 0, 0)] 10 = true := by decide +kernel
theorem M_abs_s9 : zseg (zown M_abs) (zcode M_abs) 9 [(.iload_n 1, 1, 0, 0, 0)] 10 = true := by decide +kernel
theorem M_abs_d1 : decode (zcode M_abs) 1 = .ok (.ifCond .ge 8, 3) := by decide +kernel
theorem M_abs_d10 : decode (zcode M_abs) 10 = .ok (.ireturn, 1) := by decide +kernel
theorem M_ones_s0 : zseg (zown M_ones) (zcode M_ones) 0 [(.iconst 0, 1, 0, 0, 0), (.istore_n 2, 1, 0, 0, 0), (.iconst 0, 1, 0, 0, 0), (.istore_n 3, 1, 0, 0, 0)] 4 = true := by decide +kernel
theorem M_ones_s4 : zseg (zown M_ones) (zcode M_ones) 4 [(.iload_n 3, 1, 0, 0, 0), (.bipush 12, 2, 12, 0, 0)] 7 = true := by decide +kernel
theorem M_ones_s10 : zseg (zown M_ones) (zcode M_ones) 10 [(.iload_n 2, 1, 0, 0, 0), (.iload_n 1, 1, 0, 0, 0), (.iload_n 3, 1, 0, 0, 0), (.ishr, 1, 0, 0, 0), (.iconst 1, 1, 1, 0, 0), (.iand, 1, 0, 0, 0), (.iadd, 1, 0, 0, 0), (.istore_n 2, 1, 0, 0, 0), (.iinc 3 1, 3, 1, 0, 0), (.goto (-17), 3, 0, 0, 0)] 4 = true := by decide +kernel
theorem M_ones_s24 : zseg (zown M_ones) (zcode M_ones) 24 [(.iload_n 2, 1, 0, 0, 0)] 25 = true := by decide +kernel
theorem M_ones_d7 : decode (zcode M_ones) 7 = .ok (.if_icmp .ge 17, 3) := by decide +kernel
theorem M_ones_d25 : decode (zcode M_ones) 25 = .ok (.ireturn, 1) := by decide +kernel
theorem M_bell_s0 : zseg (zown M_bell) (zcode M_bell) 0 [(.aload_n 0, 1, 0, 0, 0), (.iload_n 1, 1, 0, 0, 0), (.iconst 0, 1, 0, 0, 0), (.bipush 99, 2, 99, 0, 0)] 5 = true := by decide +kernel
theorem M_bell_s11 : zseg (zown M_bell) (zcode M_bell) 11 [(.iconst (-1), 1, (-1), 0, 0)] 12 = true := by decide +kernel
theorem M_bell_s13 : zseg (zown M_bell) (zcode M_bell) 13 [(.aload_n 0, 1, 0, 0, 0), (.getfield 106, 3, 0, 11, 0), (.bipush 6, 2, 6, 0, 0)] 19 = true := by decide +kernel
theorem M_bell_s22 : zseg (zown M_bell) (zcode M_bell) 22 [(.bipush (-3), 2, (-3), 0, 0)] 24 = true := by decide +kernel
theorem M_bell_s25 : zseg (zown M_bell) (zcode M_bell) 25 [(.aload_n 0, 1, 0, 0, 0), (.getfield 13, 3, 0, 11, 9), (.aload_n 0, 1, 0, 0, 0), (.getfield 106, 3, 0, 11, 0), (.iload_n 1, 1, 0, 0, 0), (.iastore, 1, 0, 0, 0), (.aload_n 0, 1, 0, 0, 0), (.getfield 17, 3, 0, 11, 10), (.aload_n 0, 1, 0, 0, 0), (.getfield 106, 3, 0, 11, 0), (.bipush 12, 2, 12, 0, 0), (.iastore, 1, 0, 0, 0), (.aload_n 0, 1, 0, 0, 0), (.dup, 1, 0, 0, 0), (.getfield 106, 3, 0, 11, 0), (.dup_x1, 1, 0, 0, 0), (.iconst 1, 1, 1, 0, 0), (.iadd, 1, 0, 0, 0), (.putfield 106, 3, 0, 11, 0)] 57 = true := by decide +kernel
theorem M_bell_d5 : decode (zcode M_bell) 5 = .ok (.invokevirtual 112, 3) := by decide +kernel
theorem M_bell_d8 : decode (zcode M_bell) 8 = .ok (.ifCond .ne 5, 3) := by decide +kernel
theorem M_bell_d12 : decode (zcode M_bell) 12 = .ok (.ireturn, 1) := by decide +kernel
theorem M_bell_d19 : decode (zcode M_bell) 19 = .ok (.if_icmp .ne 6, 3) := by decide +kernel
theorem M_bell_d24 : decode (zcode M_bell) 24 = .ok (.ireturn, 1) := by decide +kernel
theorem M_bell_d57 : decode (zcode M_bell) 57 = .ok (.ireturn, 1) := by decide +kernel
theorem M_adds_s0 : zseg (zown M_adds) (zcode M_adds) 0 [(.aload_n 0, 1, 0, 0, 0), (.getfield 20, 3, 0, 11, 11), (.aload_n 0, 1, 0, 0, 0), (.getfield 109, 3, 0, 11, 1), (.iload_n 1, 1, 0, 0, 0), (.iastore, 1, 0, 0, 0), (.aload_n 0, 1, 0, 0, 0), (.getfield 23, 3, 0, 11, 12), (.aload_n 0, 1, 0, 0, 0), (.getfield 109, 3, 0, 11, 1), (.iload_n 2, 1, 0, 0, 0), (.iastore, 1, 0, 0, 0), (.aload_n 0, 1, 0, 0, 0), (.getfield 26, 3, 0, 11, 13), (.aload_n 0, 1, 0, 0, 0), (.getfield 109, 3, 0, 11, 1), (.iload_n 3, 1, 0, 0, 0), (.iastore, 1, 0, 0, 0), (.aload_n 0, 1, 0, 0, 0), (.getfield 29, 3, 0, 11, 14), (.aload_n 0, 1, 0, 0, 0), (.getfield 109, 3, 0, 11, 1), (.sipush 999, 3, 999, 0, 0), (.iastore, 1, 0, 0, 0), (.aload_n 0, 1, 0, 0, 0), (.getfield 32, 3, 0, 11, 15), (.aload_n 0, 1, 0, 0, 0), (.getfield 109, 3, 0, 11, 1), (.sipush 999, 3, 999, 0, 0), (.iastore, 1, 0, 0, 0), (.aload_n 0, 1, 0, 0, 0), (.dup, 1, 0, 0, 0), (.getfield 109, 3, 0, 11, 1), (.dup_x1, 1, 0, 0, 0), (.iconst 1, 1, 1, 0, 0), (.iadd, 1, 0, 0, 0), (.putfield 109, 3, 0, 11, 1)] 65 = true := by decide +kernel
theorem M_adds_d65 : decode (zcode M_adds) 65 = .ok (.ireturn, 1) := by decide +kernel
theorem M_vow_s0 : zseg (zown M_vow) (zcode M_vow) 0 [(.aload_n 0, 1, 0, 0, 0), (.iload_n 1, 1, 0, 0, 0)] 2 = true := by decide +kernel
theorem M_vow_s8 : zseg (zown M_vow) (zcode M_vow) 8 [(.aload_n 0, 1, 0, 0, 0), (.iload_n 2, 1, 0, 0, 0), (.iconst 1, 1, 1, 0, 0), (.bipush 9, 2, 9, 0, 0)] 13 = true := by decide +kernel
theorem M_vow_s19 : zseg (zown M_vow) (zcode M_vow) 19 [(.iconst (-1), 1, (-1), 0, 0)] 20 = true := by decide +kernel
theorem M_vow_s21 : zseg (zown M_vow) (zcode M_vow) 21 [(.aload_n 0, 1, 0, 0, 0), (.getfield 109, 3, 0, 11, 1), (.bipush 12, 2, 12, 0, 0)] 27 = true := by decide +kernel
theorem M_vow_s30 : zseg (zown M_vow) (zcode M_vow) 30 [(.bipush (-3), 2, (-3), 0, 0), (.goto 10, 3, 0, 0, 0)] 42 = true := by decide +kernel
theorem M_vow_s35 : zseg (zown M_vow) (zcode M_vow) 35 [(.aload_n 0, 1, 0, 0, 0), (.iload_n 1, 1, 0, 0, 0), (.iload_n 2, 1, 0, 0, 0), (.iconst 0, 1, 0, 0, 0)] 39 = true := by decide +kernel
theorem M_vow_d2 : decode (zcode M_vow) 2 = .ok (.invokevirtual 116, 3) := by decide +kernel
theorem M_vow_d5 : decode (zcode M_vow) 5 = .ok (.ifCond .eq 14, 3) := by decide +kernel
theorem M_vow_d13 : decode (zcode M_vow) 13 = .ok (.invokevirtual 112, 3) := by decide +kernel
theorem M_vow_d16 : decode (zcode M_vow) 16 = .ok (.ifCond .ne 5, 3) := by decide +kernel
theorem M_vow_d20 : decode (zcode M_vow) 20 = .ok (.ireturn, 1) := by decide +kernel
theorem M_vow_d27 : decode (zcode M_vow) 27 = .ok (.if_icmp .ne 8, 3) := by decide +kernel
theorem M_vow_d42 : decode (zcode M_vow) 42 = .ok (.ireturn, 1) := by decide +kernel
theorem M_vow_d39 : decode (zcode M_vow) 39 = .ok (.invokevirtual 120, 3) := by decide +kernel
theorem M_vows_s0 : zseg (zown M_vows) (zcode M_vows) 0 [(.aload_n 0, 1, 0, 0, 0), (.iload_n 1, 1, 0, 0, 0)] 2 = true := by decide +kernel
theorem M_vows_s8 : zseg (zown M_vows) (zcode M_vows) 8 [(.aload_n 0, 1, 0, 0, 0), (.iload_n 3, 1, 0, 0, 0), (.iconst 1, 1, 1, 0, 0), (.bipush 12, 2, 12, 0, 0)] 13 = true := by decide +kernel
theorem M_vows_s19 : zseg (zown M_vows) (zcode M_vows) 19 [(.iconst (-1), 1, (-1), 0, 0)] 20 = true := by decide +kernel
theorem M_vows_s21 : zseg (zown M_vows) (zcode M_vows) 21 [(.aload_n 0, 1, 0, 0, 0), (.getfield 87, 3, 0, 11, 43), (.iload_n 1, 1, 0, 0, 0), (.iaload, 1, 0, 0, 0)] 27 = true := by decide +kernel
theorem M_vows_s30 : zseg (zown M_vows) (zcode M_vows) 30 [(.iconst 0, 1, 0, 0, 0)] 31 = true := by decide +kernel
theorem M_vows_s32 : zseg (zown M_vows) (zcode M_vows) 32 [(.aload_n 0, 1, 0, 0, 0), (.getfield 87, 3, 0, 11, 43), (.iload_n 1, 1, 0, 0, 0), (.iaload, 1, 0, 0, 0), (.iconst 2, 1, 2, 0, 0)] 39 = true := by decide +kernel
theorem M_vows_s42 : zseg (zown M_vows) (zcode M_vows) 42 [(.aload_n 0, 1, 0, 0, 0), (.getfield 90, 3, 0, 11, 44), (.iload_n 1, 1, 0, 0, 0), (.iaload, 1, 0, 0, 0)] 48 = true := by decide +kernel
theorem M_vows_s51 : zseg (zown M_vows) (zcode M_vows) 51 [(.bipush (-12), 2, (-12), 0, 0)] 53 = true := by decide +kernel
theorem M_vows_s54 : zseg (zown M_vows) (zcode M_vows) 54 [(.iconst 0, 1, 0, 0, 0), (.istore 4, 2, 0, 0, 0), (.iload_n 2, 1, 0, 0, 0), (.istore 5, 2, 0, 0, 0)] 60 = true := by decide +kernel
theorem M_vows_s60 : zseg (zown M_vows) (zcode M_vows) 60 [(.iload 4, 2, 0, 0, 0), (.iload_n 3, 1, 0, 0, 0)] 63 = true := by decide +kernel
theorem M_vows_s66 : zseg (zown M_vows) (zcode M_vows) 66 [(.iload_n 2, 1, 0, 0, 0)] 67 = true := by decide +kernel
theorem M_vows_s70 : zseg (zown M_vows) (zcode M_vows) 70 [(.iload 5, 2, 0, 0, 0), (.aload_n 0, 1, 0, 0, 0), (.getfield 93, 3, 0, 11, 45), (.iload_n 1, 1, 0, 0, 0), (.iaload, 1, 0, 0, 0), (.iconst 3, 1, 3, 0, 0), (.isub, 1, 0, 0, 0)] 80 = true := by decide +kernel
theorem M_vows_s83 : zseg (zown M_vows) (zcode M_vows) 83 [(.aload_n 0, 1, 0, 0, 0), (.getfield 109, 3, 0, 11, 1), (.bipush 12, 2, 12, 0, 0)] 89 = true := by decide +kernel
theorem M_vows_s92 : zseg (zown M_vows) (zcode M_vows) 92 [(.iload 4, 2, 0, 0, 0)] 94 = true := by decide +kernel
theorem M_vows_s95 : zseg (zown M_vows) (zcode M_vows) 95 [(.aload_n 0, 1, 0, 0, 0), (.iload_n 1, 1, 0, 0, 0), (.iload 5, 2, 0, 0, 0)] 99 = true := by decide +kernel
theorem M_vows_s102 : zseg (zown M_vows) (zcode M_vows) 102 [(.istore 6, 2, 0, 0, 0), (.aload_n 0, 1, 0, 0, 0), (.iload_n 1, 1, 0, 0, 0), (.iload 5, 2, 0, 0, 0), (.iconst 1, 1, 1, 0, 0), (.iadd, 1, 0, 0, 0)] 110 = true := by decide +kernel
theorem M_vows_s113 : zseg (zown M_vows) (zcode M_vows) 113 [(.istore 7, 2, 0, 0, 0), (.aload_n 0, 1, 0, 0, 0), (.iload_n 1, 1, 0, 0, 0), (.iload 5, 2, 0, 0, 0), (.iconst 2, 1, 2, 0, 0), (.iadd, 1, 0, 0, 0)] 121 = true := by decide +kernel
theorem M_vows_s124 : zseg (zown M_vows) (zcode M_vows) 124 [(.istore 8, 2, 0, 0, 0), (.aload_n 0, 1, 0, 0, 0), (.iload 6, 2, 0, 0, 0)] 129 = true := by decide +kernel
theorem M_vows_s135 : zseg (zown M_vows) (zcode M_vows) 135 [(.aload_n 0, 1, 0, 0, 0), (.iload 7, 2, 0, 0, 0), (.iconst 1, 1, 1, 0, 0), (.bipush 9, 2, 9, 0, 0)] 141 = true := by decide +kernel
theorem M_vows_s147 : zseg (zown M_vows) (zcode M_vows) 147 [(.aload_n 0, 1, 0, 0, 0), (.iload 8, 2, 0, 0, 0), (.iconst 0, 1, 0, 0, 0), (.iconst 5, 1, 5, 0, 0)] 152 = true := by decide +kernel
theorem M_vows_s158 : zseg (zown M_vows) (zcode M_vows) 158 [(.iload 4, 2, 0, 0, 0)] 160 = true := by decide +kernel
theorem M_vows_s161 : zseg (zown M_vows) (zcode M_vows) 161 [(.aload_n 0, 1, 0, 0, 0), (.iload 6, 2, 0, 0, 0), (.iload 7, 2, 0, 0, 0), (.iload 8, 2, 0, 0, 0)] 168 = true := by decide +kernel
theorem M_vows_s171 : zseg (zown M_vows) (zcode M_vows) 171 [(.pop, 1, 0, 0, 0), (.iinc 4 1, 3, 1, 0, 0), (.iinc 5 3, 3, 3, 0, 0), (.goto (-118), 3, 0, 0, 0)] 60 = true := by decide +kernel
theorem M_vows_s181 : zseg (zown M_vows) (zcode M_vows) 181 [(.iload 4, 2, 0, 0, 0)] 183 = true := by decide +kernel
theorem M_vows_d2 : decode (zcode M_vows) 2 = .ok (.invokevirtual 124, 3) := by decide +kernel
theorem M_vows_d5 : decode (zcode M_vows) 5 = .ok (.ifCond .eq 14, 3) := by decide +kernel
theorem M_vows_d13 : decode (zcode M_vows) 13 = .ok (.invokevirtual 112, 3) := by decide +kernel
theorem M_vows_d16 : decode (zcode M_vows) 16 = .ok (.ifCond .ne 5, 3) := by decide +kernel
theorem M_vows_d20 : decode (zcode M_vows) 20 = .ok (.ireturn, 1) := by decide +kernel
theorem M_vows_d27 : decode (zcode M_vows) 27 = .ok (.ifCond .ne 5, 3) := by decide +kernel
theorem M_vows_d31 : decode (zcode M_vows) 31 = .ok (.ireturn, 1) := by decide +kernel
theorem M_vows_d39 : decode (zcode M_vows) 39 = .ok (.if_icmp .ne 12, 3) := by decide +kernel
theorem M_vows_d48 : decode (zcode M_vows) 48 = .ok (.ifCond .eq 6, 3) := by decide +kernel
theorem M_vows_d53 : decode (zcode M_vows) 53 = .ok (.ireturn, 1) := by decide +kernel
theorem M_vows_d63 : decode (zcode M_vows) 63 = .ok (.if_icmp .ge 118, 3) := by decide +kernel
theorem M_vows_d67 : decode (zcode M_vows) 67 = .ok (.ifCond .lt 114, 3) := by decide +kernel
theorem M_vows_d80 : decode (zcode M_vows) 80 = .ok (.if_icmp .gt 12, 3) := by decide +kernel
theorem M_vows_d89 : decode (zcode M_vows) 89 = .ok (.if_icmp .ne 6, 3) := by decide +kernel
theorem M_vows_d94 : decode (zcode M_vows) 94 = .ok (.ireturn, 1) := by decide +kernel
theorem M_vows_d99 : decode (zcode M_vows) 99 = .ok (.invokevirtual 127, 3) := by decide +kernel
theorem M_vows_d110 : decode (zcode M_vows) 110 = .ok (.invokevirtual 127, 3) := by decide +kernel
theorem M_vows_d121 : decode (zcode M_vows) 121 = .ok (.invokevirtual 127, 3) := by decide +kernel
theorem M_vows_d129 : decode (zcode M_vows) 129 = .ok (.invokevirtual 116, 3) := by decide +kernel
theorem M_vows_d132 : decode (zcode M_vows) 132 = .ok (.ifCond .eq 26, 3) := by decide +kernel
theorem M_vows_d141 : decode (zcode M_vows) 141 = .ok (.invokevirtual 112, 3) := by decide +kernel
theorem M_vows_d144 : decode (zcode M_vows) 144 = .ok (.ifCond .eq 14, 3) := by decide +kernel
theorem M_vows_d152 : decode (zcode M_vows) 152 = .ok (.invokevirtual 112, 3) := by decide +kernel
theorem M_vows_d155 : decode (zcode M_vows) 155 = .ok (.ifCond .ne 6, 3) := by decide +kernel
theorem M_vows_d160 : decode (zcode M_vows) 160 = .ok (.ireturn, 1) := by decide +kernel
theorem M_vows_d168 : decode (zcode M_vows) 168 = .ok (.invokevirtual 120, 3) := by decide +kernel
theorem M_vows_d183 : decode (zcode M_vows) 183 = .ok (.ireturn, 1) := by decide +kernel
theorem M_least_s0 : zseg (zown M_least) (zcode M_least) 0 [(.iload_n 1, 1, 0, 0, 0), (.iconst 1, 1, 1, 0, 0)] 2 = true := by decide +kernel
theorem M_least_s5 : zseg (zown M_least) (zcode M_least) 5 [(.iload_n 1, 1, 0, 0, 0), (.iconst 3, 1, 3, 0, 0)] 7 = true := by decide +kernel
theorem M_least_s10 : zseg (zown M_least) (zcode M_least) 10 [(.iconst 1, 1, 1, 0, 0), (.goto 4, 3, 0, 0, 0)] 15 = true := by decide +kernel
theorem M_least_s14 : zseg (zown M_least) (zcode M_least) 14 [(.iconst 0, 1, 0, 0, 0)] 15 = true := by decide +kernel
theorem M_least_d2 : decode (zcode M_least) 2 = .ok (.if_icmp .eq 8, 3) := by decide +kernel
theorem M_least_d7 : decode (zcode M_least) 7 = .ok (.if_icmp .ne 7, 3) := by decide +kernel
theorem M_least_d15 : decode (zcode M_least) 15 = .ok (.ireturn, 1) := by decide +kernel
theorem M_most_s0 : zseg (zown M_most) (zcode M_most) 0 [(.iload_n 1, 1, 0, 0, 0)] 1 = true := by decide +kernel
theorem M_most_s48 : zseg (zown M_most) (zcode M_most) 48 [(.bipush 99, 2, 99, 0, 0)] 50 = true := by decide +kernel
theorem M_most_s51 : zseg (zown M_most) (zcode M_most) 51 [(.bipush 24, 2, 24, 0, 0)] 53 = true := by decide +kernel
theorem M_most_s54 : zseg (zown M_most) (zcode M_most) 54 [(.aload_n 0, 1, 0, 0, 0), (.getfield 106, 3, 0, 11, 0), (.iconst 1, 1, 1, 0, 0), (.isub, 1, 0, 0, 0)] 60 = true := by decide +kernel
theorem M_most_s61 : zseg (zown M_most) (zcode M_most) 61 [(.bipush 9, 2, 9, 0, 0)] 63 = true := by decide +kernel
theorem M_most_s64 : zseg (zown M_most) (zcode M_most) 64 [(.iconst 5, 1, 5, 0, 0)] 65 = true := by decide +kernel
theorem M_most_s66 : zseg (zown M_most) (zcode M_most) 66 [(.bipush 12, 2, 12, 0, 0)] 68 = true := by decide +kernel
theorem M_most_s69 : zseg (zown M_most) (zcode M_most) 69 [(.sipush 999, 3, 999, 0, 0)] 72 = true := by decide +kernel
theorem M_most_d1 : decode (zcode M_most) 1 = .ok (.tableswitch 68 0 7 #[47, 50, 53, 60, 63, 68, 68, 65], 47) := by decide +kernel
theorem M_most_d50 : decode (zcode M_most) 50 = .ok (.ireturn, 1) := by decide +kernel
theorem M_most_d53 : decode (zcode M_most) 53 = .ok (.ireturn, 1) := by decide +kernel
theorem M_most_d60 : decode (zcode M_most) 60 = .ok (.ireturn, 1) := by decide +kernel
theorem M_most_d63 : decode (zcode M_most) 63 = .ok (.ireturn, 1) := by decide +kernel
theorem M_most_d65 : decode (zcode M_most) 65 = .ok (.ireturn, 1) := by decide +kernel
theorem M_most_d68 : decode (zcode M_most) 68 = .ok (.ireturn, 1) := by decide +kernel
theorem M_most_d72 : decode (zcode M_most) 72 = .ok (.ireturn, 1) := by decide +kernel
theorem M_isNumber_s0 : zseg (zown M_isNumber) (zcode M_isNumber) 0 [(.aload_n 0, 1, 0, 0, 0), (.iload_n 2, 1, 0, 0, 0), (.iconst 0, 1, 0, 0, 0), (.iconst 1, 1, 1, 0, 0)] 4 = true := by decide +kernel
theorem M_isNumber_s10 : zseg (zown M_isNumber) (zcode M_isNumber) 10 [(.aload_n 0, 1, 0, 0, 0), (.iload_n 1, 1, 0, 0, 0)] 12 = true := by decide +kernel
theorem M_isNumber_s18 : zseg (zown M_isNumber) (zcode M_isNumber) 18 [(.aload_n 0, 1, 0, 0, 0), (.iload_n 2, 1, 0, 0, 0), (.iconst 2, 1, 2, 0, 0), (.bipush 6, 2, 6, 0, 0)] 23 = true := by decide +kernel
theorem M_isNumber_s29 : zseg (zown M_isNumber) (zcode M_isNumber) 29 [(.aload_n 0, 1, 0, 0, 0), (.iload_n 1, 1, 0, 0, 0)] 31 = true := by decide +kernel
theorem M_isNumber_s37 : zseg (zown M_isNumber) (zcode M_isNumber) 37 [(.iload_n 2, 1, 0, 0, 0), (.bipush 7, 2, 7, 0, 0)] 40 = true := by decide +kernel
theorem M_isNumber_s43 : zseg (zown M_isNumber) (zcode M_isNumber) 43 [(.iload_n 1, 1, 0, 0, 0)] 44 = true := by decide +kernel
theorem M_isNumber_s47 : zseg (zown M_isNumber) (zcode M_isNumber) 47 [(.iconst 1, 1, 1, 0, 0), (.goto 4, 3, 0, 0, 0)] 52 = true := by decide +kernel
theorem M_isNumber_s51 : zseg (zown M_isNumber) (zcode M_isNumber) 51 [(.iconst 0, 1, 0, 0, 0)] 52 = true := by decide +kernel
theorem M_isNumber_d4 : decode (zcode M_isNumber) 4 = .ok (.invokevirtual 112, 3) := by decide +kernel
theorem M_isNumber_d7 : decode (zcode M_isNumber) 7 = .ok (.ifCond .eq 11, 3) := by decide +kernel
theorem M_isNumber_d12 : decode (zcode M_isNumber) 12 = .ok (.invokevirtual 116, 3) := by decide +kernel
theorem M_isNumber_d15 : decode (zcode M_isNumber) 15 = .ok (.ifCond .ne 32, 3) := by decide +kernel
theorem M_isNumber_d23 : decode (zcode M_isNumber) 23 = .ok (.invokevirtual 112, 3) := by decide +kernel
theorem M_isNumber_d26 : decode (zcode M_isNumber) 26 = .ok (.ifCond .eq 11, 3) := by decide +kernel
theorem M_isNumber_d31 : decode (zcode M_isNumber) 31 = .ok (.invokevirtual 131, 3) := by decide +kernel
theorem M_isNumber_d34 : decode (zcode M_isNumber) 34 = .ok (.ifCond .ne 13, 3) := by decide +kernel
theorem M_isNumber_d40 : decode (zcode M_isNumber) 40 = .ok (.if_icmp .ne 11, 3) := by decide +kernel
theorem M_isNumber_d44 : decode (zcode M_isNumber) 44 = .ok (.ifCond .ne 7, 3) := by decide +kernel
theorem M_isNumber_d52 : decode (zcode M_isNumber) 52 = .ok (.ireturn, 1) := by decide +kernel
theorem M_read_s0 : zseg (zown M_read) (zcode M_read) 0 [(.iload_n 2, 1, 0, 0, 0)] 1 = true := by decide +kernel
theorem M_read_s44 : zseg (zown M_read) (zcode M_read) 44 [(.aload_n 0, 1, 0, 0, 0), (.getfield 13, 3, 0, 11, 9), (.iload_n 1, 1, 0, 0, 0), (.iaload, 1, 0, 0, 0)] 50 = true := by decide +kernel
theorem M_read_s51 : zseg (zown M_read) (zcode M_read) 51 [(.aload_n 0, 1, 0, 0, 0), (.getfield 17, 3, 0, 11, 10), (.iload_n 1, 1, 0, 0, 0), (.iaload, 1, 0, 0, 0)] 57 = true := by decide +kernel
theorem M_read_s58 : zseg (zown M_read) (zcode M_read) 58 [(.aload_n 0, 1, 0, 0, 0), (.getfield 20, 3, 0, 11, 11), (.iload_n 1, 1, 0, 0, 0), (.iaload, 1, 0, 0, 0)] 64 = true := by decide +kernel
theorem M_read_s65 : zseg (zown M_read) (zcode M_read) 65 [(.aload_n 0, 1, 0, 0, 0), (.getfield 23, 3, 0, 11, 12), (.iload_n 1, 1, 0, 0, 0), (.iaload, 1, 0, 0, 0)] 71 = true := by decide +kernel
theorem M_read_s72 : zseg (zown M_read) (zcode M_read) 72 [(.aload_n 0, 1, 0, 0, 0), (.getfield 26, 3, 0, 11, 13), (.iload_n 1, 1, 0, 0, 0), (.iaload, 1, 0, 0, 0)] 78 = true := by decide +kernel
theorem M_read_s79 : zseg (zown M_read) (zcode M_read) 79 [(.aload_n 0, 1, 0, 0, 0), (.getfield 29, 3, 0, 11, 14), (.iload_n 1, 1, 0, 0, 0), (.iaload, 1, 0, 0, 0)] 85 = true := by decide +kernel
theorem M_read_s86 : zseg (zown M_read) (zcode M_read) 86 [(.aload_n 0, 1, 0, 0, 0), (.getfield 32, 3, 0, 11, 15), (.iload_n 1, 1, 0, 0, 0), (.iaload, 1, 0, 0, 0)] 92 = true := by decide +kernel
theorem M_read_s93 : zseg (zown M_read) (zcode M_read) 93 [(.aload_n 0, 1, 0, 0, 0), (.getfield 7, 3, 0, 11, 2)] 97 = true := by decide +kernel
theorem M_read_d1 : decode (zcode M_read) 1 = .ok (.tableswitch 92 0 6 #[43, 50, 57, 64, 71, 78, 85], 43) := by decide +kernel
theorem M_read_d50 : decode (zcode M_read) 50 = .ok (.ireturn, 1) := by decide +kernel
theorem M_read_d57 : decode (zcode M_read) 57 = .ok (.ireturn, 1) := by decide +kernel
theorem M_read_d64 : decode (zcode M_read) 64 = .ok (.ireturn, 1) := by decide +kernel
theorem M_read_d71 : decode (zcode M_read) 71 = .ok (.ireturn, 1) := by decide +kernel
theorem M_read_d78 : decode (zcode M_read) 78 = .ok (.ireturn, 1) := by decide +kernel
theorem M_read_d85 : decode (zcode M_read) 85 = .ok (.ireturn, 1) := by decide +kernel
theorem M_read_d92 : decode (zcode M_read) 92 = .ok (.ireturn, 1) := by decide +kernel
theorem M_read_d97 : decode (zcode M_read) 97 = .ok (.ireturn, 1) := by decide +kernel
theorem M_write_s0 : zseg (zown M_write) (zcode M_write) 0 [(.iload_n 2, 1, 0, 0, 0)] 1 = true := by decide +kernel
theorem M_write_s44 : zseg (zown M_write) (zcode M_write) 44 [(.aload_n 0, 1, 0, 0, 0), (.getfield 13, 3, 0, 11, 9), (.iload_n 1, 1, 0, 0, 0), (.iload_n 3, 1, 0, 0, 0), (.iastore, 1, 0, 0, 0), (.goto 68, 3, 0, 0, 0)] 119 = true := by decide +kernel
theorem M_write_s54 : zseg (zown M_write) (zcode M_write) 54 [(.aload_n 0, 1, 0, 0, 0), (.getfield 17, 3, 0, 11, 10), (.iload_n 1, 1, 0, 0, 0), (.iload_n 3, 1, 0, 0, 0), (.iastore, 1, 0, 0, 0), (.goto 58, 3, 0, 0, 0)] 119 = true := by decide +kernel
theorem M_write_s64 : zseg (zown M_write) (zcode M_write) 64 [(.aload_n 0, 1, 0, 0, 0), (.getfield 20, 3, 0, 11, 11), (.iload_n 1, 1, 0, 0, 0), (.iload_n 3, 1, 0, 0, 0), (.iastore, 1, 0, 0, 0), (.goto 48, 3, 0, 0, 0)] 119 = true := by decide +kernel
theorem M_write_s74 : zseg (zown M_write) (zcode M_write) 74 [(.aload_n 0, 1, 0, 0, 0), (.getfield 23, 3, 0, 11, 12), (.iload_n 1, 1, 0, 0, 0), (.iload_n 3, 1, 0, 0, 0), (.iastore, 1, 0, 0, 0), (.goto 38, 3, 0, 0, 0)] 119 = true := by decide +kernel
theorem M_write_s84 : zseg (zown M_write) (zcode M_write) 84 [(.aload_n 0, 1, 0, 0, 0), (.getfield 26, 3, 0, 11, 13), (.iload_n 1, 1, 0, 0, 0), (.iload_n 3, 1, 0, 0, 0), (.iastore, 1, 0, 0, 0), (.goto 28, 3, 0, 0, 0)] 119 = true := by decide +kernel
theorem M_write_s94 : zseg (zown M_write) (zcode M_write) 94 [(.aload_n 0, 1, 0, 0, 0), (.getfield 29, 3, 0, 11, 14), (.iload_n 1, 1, 0, 0, 0), (.iload_n 3, 1, 0, 0, 0), (.iastore, 1, 0, 0, 0), (.goto 18, 3, 0, 0, 0)] 119 = true := by decide +kernel
theorem M_write_s104 : zseg (zown M_write) (zcode M_write) 104 [(.aload_n 0, 1, 0, 0, 0), (.getfield 32, 3, 0, 11, 15), (.iload_n 1, 1, 0, 0, 0), (.iload_n 3, 1, 0, 0, 0), (.iastore, 1, 0, 0, 0), (.goto 8, 3, 0, 0, 0)] 119 = true := by decide +kernel
theorem M_write_s114 : zseg (zown M_write) (zcode M_write) 114 [(.aload_n 0, 1, 0, 0, 0), (.iload_n 3, 1, 0, 0, 0), (.putfield 7, 3, 0, 11, 2)] 119 = true := by decide +kernel
theorem M_write_d1 : decode (zcode M_write) 1 = .ok (.tableswitch 113 0 6 #[43, 53, 63, 73, 83, 93, 103], 43) := by decide +kernel
theorem M_write_d119 : decode (zcode M_write) 119 = .ok (.return_, 1) := by decide +kernel
theorem M_drops_s0 : zseg (zown M_drops) (zcode M_drops) 0 [(.iconst 1, 1, 1, 0, 0), (.istore_n 1, 1, 0, 0, 0)] 2 = true := by decide +kernel
theorem M_drops_s2 : zseg (zown M_drops) (zcode M_drops) 2 [(.iload_n 1, 1, 0, 0, 0), (.bipush 40, 2, 40, 0, 0)] 5 = true := by decide +kernel
theorem M_drops_s8 : zseg (zown M_drops) (zcode M_drops) 8 [(.aload_n 0, 1, 0, 0, 0), (.getfield 41, 3, 0, 11, 18), (.iload_n 1, 1, 0, 0, 0), (.iconst 1, 1, 1, 0, 0), (.isub, 1, 0, 0, 0), (.aload_n 0, 1, 0, 0, 0), (.getfield 41, 3, 0, 11, 18), (.iload_n 1, 1, 0, 0, 0), (.iaload, 1, 0, 0, 0), (.iastore, 1, 0, 0, 0), (.aload_n 0, 1, 0, 0, 0), (.getfield 44, 3, 0, 11, 19), (.iload_n 1, 1, 0, 0, 0), (.iconst 1, 1, 1, 0, 0), (.isub, 1, 0, 0, 0), (.aload_n 0, 1, 0, 0, 0), (.getfield 44, 3, 0, 11, 19), (.iload_n 1, 1, 0, 0, 0), (.iaload, 1, 0, 0, 0), (.iastore, 1, 0, 0, 0), (.aload_n 0, 1, 0, 0, 0), (.getfield 47, 3, 0, 11, 20), (.iload_n 1, 1, 0, 0, 0), (.iconst 1, 1, 1, 0, 0), (.isub, 1, 0, 0, 0), (.aload_n 0, 1, 0, 0, 0), (.getfield 47, 3, 0, 11, 20), (.iload_n 1, 1, 0, 0, 0), (.iaload, 1, 0, 0, 0), (.iastore, 1, 0, 0, 0), (.aload_n 0, 1, 0, 0, 0), (.getfield 50, 3, 0, 11, 21), (.iload_n 1, 1, 0, 0, 0), (.iconst 1, 1, 1, 0, 0), (.isub, 1, 0, 0, 0), (.aload_n 0, 1, 0, 0, 0), (.getfield 50, 3, 0, 11, 21), (.iload_n 1, 1, 0, 0, 0), (.iaload, 1, 0, 0, 0), (.iastore, 1, 0, 0, 0), (.iinc 1 1, 3, 1, 0, 0), (.goto (-65), 3, 0, 0, 0)] 2 = true := by decide +kernel
theorem M_drops_s70 : zseg (zown M_drops) (zcode M_drops) 70 [(.aload_n 0, 1, 0, 0, 0), (.dup, 1, 0, 0, 0), (.getfield 134, 3, 0, 11, 22), (.iconst 1, 1, 1, 0, 0), (.isub, 1, 0, 0, 0), (.putfield 134, 3, 0, 11, 22)] 80 = true := by decide +kernel
theorem M_drops_d5 : decode (zcode M_drops) 5 = .ok (.if_icmp .ge 65, 3) := by decide +kernel
theorem M_drops_d80 : decode (zcode M_drops) 80 = .ok (.return_, 1) := by decide +kernel
theorem M_mend_s0 : zseg (zown M_mend) (zcode M_mend) 0 [(.aload_n 0, 1, 0, 0, 0), (.iload_n 1, 1, 0, 0, 0), (.iload_n 2, 1, 0, 0, 0)] 3 = true := by decide +kernel
theorem M_mend_s9 : zseg (zown M_mend) (zcode M_mend) 9 [(.aload_n 0, 1, 0, 0, 0), (.iload_n 3, 1, 0, 0, 0), (.aload_n 0, 1, 0, 0, 0), (.iload_n 2, 1, 0, 0, 0)] 13 = true := by decide +kernel
theorem M_mend_s16 : zseg (zown M_mend) (zcode M_mend) 16 [(.aload_n 0, 1, 0, 0, 0), (.iload_n 2, 1, 0, 0, 0)] 18 = true := by decide +kernel
theorem M_mend_s27 : zseg (zown M_mend) (zcode M_mend) 27 [(.iconst (-1), 1, (-1), 0, 0)] 28 = true := by decide +kernel
theorem M_mend_s29 : zseg (zown M_mend) (zcode M_mend) 29 [(.aload_n 0, 1, 0, 0, 0), (.iload_n 1, 1, 0, 0, 0), (.iload_n 2, 1, 0, 0, 0)] 32 = true := by decide +kernel
theorem M_mend_s35 : zseg (zown M_mend) (zcode M_mend) 35 [(.istore 4, 2, 0, 0, 0), (.iload 4, 2, 0, 0, 0), (.iload_n 3, 1, 0, 0, 0)] 40 = true := by decide +kernel
theorem M_mend_s43 : zseg (zown M_mend) (zcode M_mend) 43 [(.iload 4, 2, 0, 0, 0)] 45 = true := by decide +kernel
theorem M_mend_s46 : zseg (zown M_mend) (zcode M_mend) 46 [(.aload_n 0, 1, 0, 0, 0), (.getfield 134, 3, 0, 11, 22), (.bipush 40, 2, 40, 0, 0)] 52 = true := by decide +kernel
theorem M_mend_s55 : zseg (zown M_mend) (zcode M_mend) 55 [(.aload_n 0, 1, 0, 0, 0)] 56 = true := by decide +kernel
theorem M_mend_s59 : zseg (zown M_mend) (zcode M_mend) 59 [(.aload_n 0, 1, 0, 0, 0), (.getfield 41, 3, 0, 11, 18), (.aload_n 0, 1, 0, 0, 0), (.getfield 134, 3, 0, 11, 22), (.iload_n 1, 1, 0, 0, 0), (.iastore, 1, 0, 0, 0), (.aload_n 0, 1, 0, 0, 0), (.getfield 44, 3, 0, 11, 19), (.aload_n 0, 1, 0, 0, 0), (.getfield 134, 3, 0, 11, 22), (.iload_n 2, 1, 0, 0, 0), (.iastore, 1, 0, 0, 0), (.aload_n 0, 1, 0, 0, 0), (.getfield 47, 3, 0, 11, 20), (.aload_n 0, 1, 0, 0, 0), (.getfield 134, 3, 0, 11, 22), (.iload 4, 2, 0, 0, 0), (.iastore, 1, 0, 0, 0), (.aload_n 0, 1, 0, 0, 0), (.getfield 50, 3, 0, 11, 21), (.aload_n 0, 1, 0, 0, 0), (.getfield 134, 3, 0, 11, 22), (.iload_n 3, 1, 0, 0, 0), (.iastore, 1, 0, 0, 0), (.aload_n 0, 1, 0, 0, 0), (.dup, 1, 0, 0, 0), (.getfield 134, 3, 0, 11, 22), (.iconst 1, 1, 1, 0, 0), (.iadd, 1, 0, 0, 0), (.putfield 134, 3, 0, 11, 22), (.aload_n 0, 1, 0, 0, 0), (.aload_n 0, 1, 0, 0, 0), (.getfield 134, 3, 0, 11, 22), (.putfield 154, 3, 0, 11, 23), (.aload_n 0, 1, 0, 0, 0), (.iload_n 1, 1, 0, 0, 0), (.iload_n 2, 1, 0, 0, 0), (.iload_n 3, 1, 0, 0, 0)] 122 = true := by decide +kernel
theorem M_mend_s125 : zseg (zown M_mend) (zcode M_mend) 125 [(.iload 4, 2, 0, 0, 0)] 127 = true := by decide +kernel
theorem M_mend_d3 : decode (zcode M_mend) 3 = .ok (.invokevirtual 137, 3) := by decide +kernel
theorem M_mend_d6 : decode (zcode M_mend) 6 = .ok (.ifCond .eq 21, 3) := by decide +kernel
theorem M_mend_d13 : decode (zcode M_mend) 13 = .ok (.invokevirtual 141, 3) := by decide +kernel
theorem M_mend_d18 : decode (zcode M_mend) 18 = .ok (.invokevirtual 145, 3) := by decide +kernel
theorem M_mend_d21 : decode (zcode M_mend) 21 = .ok (.invokevirtual 112, 3) := by decide +kernel
theorem M_mend_d24 : decode (zcode M_mend) 24 = .ok (.ifCond .ne 5, 3) := by decide +kernel
theorem M_mend_d28 : decode (zcode M_mend) 28 = .ok (.ireturn, 1) := by decide +kernel
theorem M_mend_d32 : decode (zcode M_mend) 32 = .ok (.invokevirtual 148, 3) := by decide +kernel
theorem M_mend_d40 : decode (zcode M_mend) 40 = .ok (.if_icmp .ne 6, 3) := by decide +kernel
theorem M_mend_d45 : decode (zcode M_mend) 45 = .ok (.ireturn, 1) := by decide +kernel
theorem M_mend_d52 : decode (zcode M_mend) 52 = .ok (.if_icmp .ne 7, 3) := by decide +kernel
theorem M_mend_d56 : decode (zcode M_mend) 56 = .ok (.invokevirtual 151, 3) := by decide +kernel
theorem M_mend_d122 : decode (zcode M_mend) 122 = .ok (.invokevirtual 157, 3) := by decide +kernel
theorem M_mend_d127 : decode (zcode M_mend) 127 = .ok (.ireturn, 1) := by decide +kernel
theorem M_undo_s0 : zseg (zown M_undo) (zcode M_undo) 0 [(.aload_n 0, 1, 0, 0, 0), (.getfield 134, 3, 0, 11, 22)] 4 = true := by decide +kernel
theorem M_undo_s7 : zseg (zown M_undo) (zcode M_undo) 7 [(.bipush (-5), 2, (-5), 0, 0)] 9 = true := by decide +kernel
theorem M_undo_s10 : zseg (zown M_undo) (zcode M_undo) 10 [(.aload_n 0, 1, 0, 0, 0), (.dup, 1, 0, 0, 0), (.getfield 134, 3, 0, 11, 22), (.iconst 1, 1, 1, 0, 0), (.isub, 1, 0, 0, 0), (.putfield 134, 3, 0, 11, 22), (.aload_n 0, 1, 0, 0, 0), (.aload_n 0, 1, 0, 0, 0), (.getfield 41, 3, 0, 11, 18), (.aload_n 0, 1, 0, 0, 0), (.getfield 134, 3, 0, 11, 22), (.iaload, 1, 0, 0, 0), (.aload_n 0, 1, 0, 0, 0), (.getfield 44, 3, 0, 11, 19), (.aload_n 0, 1, 0, 0, 0), (.getfield 134, 3, 0, 11, 22), (.iaload, 1, 0, 0, 0), (.aload_n 0, 1, 0, 0, 0), (.getfield 47, 3, 0, 11, 20), (.aload_n 0, 1, 0, 0, 0), (.getfield 134, 3, 0, 11, 22), (.iaload, 1, 0, 0, 0)] 48 = true := by decide +kernel
theorem M_undo_s51 : zseg (zown M_undo) (zcode M_undo) 51 [(.aload_n 0, 1, 0, 0, 0), (.getfield 134, 3, 0, 11, 22)] 55 = true := by decide +kernel
theorem M_undo_d4 : decode (zcode M_undo) 4 = .ok (.ifCond .ne 6, 3) := by decide +kernel
theorem M_undo_d9 : decode (zcode M_undo) 9 = .ok (.ireturn, 1) := by decide +kernel
theorem M_undo_d48 : decode (zcode M_undo) 48 = .ok (.invokevirtual 157, 3) := by decide +kernel
theorem M_undo_d55 : decode (zcode M_undo) 55 = .ok (.ireturn, 1) := by decide +kernel
theorem M_redo_s0 : zseg (zown M_redo) (zcode M_redo) 0 [(.aload_n 0, 1, 0, 0, 0), (.getfield 134, 3, 0, 11, 22), (.aload_n 0, 1, 0, 0, 0), (.getfield 154, 3, 0, 11, 23)] 8 = true := by decide +kernel
theorem M_redo_s11 : zseg (zown M_redo) (zcode M_redo) 11 [(.bipush (-5), 2, (-5), 0, 0)] 13 = true := by decide +kernel
theorem M_redo_s14 : zseg (zown M_redo) (zcode M_redo) 14 [(.aload_n 0, 1, 0, 0, 0), (.aload_n 0, 1, 0, 0, 0), (.getfield 41, 3, 0, 11, 18), (.aload_n 0, 1, 0, 0, 0), (.getfield 134, 3, 0, 11, 22), (.iaload, 1, 0, 0, 0), (.aload_n 0, 1, 0, 0, 0), (.getfield 44, 3, 0, 11, 19), (.aload_n 0, 1, 0, 0, 0), (.getfield 134, 3, 0, 11, 22), (.iaload, 1, 0, 0, 0), (.aload_n 0, 1, 0, 0, 0), (.getfield 50, 3, 0, 11, 21), (.aload_n 0, 1, 0, 0, 0), (.getfield 134, 3, 0, 11, 22), (.iaload, 1, 0, 0, 0)] 42 = true := by decide +kernel
theorem M_redo_s45 : zseg (zown M_redo) (zcode M_redo) 45 [(.aload_n 0, 1, 0, 0, 0), (.dup, 1, 0, 0, 0), (.getfield 134, 3, 0, 11, 22), (.iconst 1, 1, 1, 0, 0), (.iadd, 1, 0, 0, 0), (.putfield 134, 3, 0, 11, 22), (.aload_n 0, 1, 0, 0, 0), (.getfield 154, 3, 0, 11, 23), (.aload_n 0, 1, 0, 0, 0), (.getfield 134, 3, 0, 11, 22), (.isub, 1, 0, 0, 0)] 64 = true := by decide +kernel
theorem M_redo_d8 : decode (zcode M_redo) 8 = .ok (.if_icmp .ne 6, 3) := by decide +kernel
theorem M_redo_d13 : decode (zcode M_redo) 13 = .ok (.ireturn, 1) := by decide +kernel
theorem M_redo_d42 : decode (zcode M_redo) 42 = .ok (.invokevirtual 157, 3) := by decide +kernel
theorem M_redo_d64 : decode (zcode M_redo) 64 = .ok (.ireturn, 1) := by decide +kernel
theorem M_of_s0 : zseg (zown M_of) (zcode M_of) 0 [(.iload_n 2, 1, 0, 0, 0), (.bipush 10, 2, 10, 0, 0)] 3 = true := by decide +kernel
theorem M_of_s6 : zseg (zown M_of) (zcode M_of) 6 [(.aload_n 0, 1, 0, 0, 0), (.iload_n 1, 1, 0, 0, 0)] 8 = true := by decide +kernel
theorem M_of_s14 : zseg (zown M_of) (zcode M_of) 14 [(.aload_n 0, 1, 0, 0, 0), (.aload_n 0, 1, 0, 0, 0), (.iload_n 1, 1, 0, 0, 0), (.aload_n 0, 1, 0, 0, 0), (.getfield 161, 3, 0, 11, 3)] 21 = true := by decide +kernel
theorem M_of_s28 : zseg (zown M_of) (zcode M_of) 28 [(.iload_n 2, 1, 0, 0, 0), (.bipush 11, 2, 11, 0, 0)] 31 = true := by decide +kernel
theorem M_of_s34 : zseg (zown M_of) (zcode M_of) 34 [(.iload_n 1, 1, 0, 0, 0)] 35 = true := by decide +kernel
theorem M_of_s38 : zseg (zown M_of) (zcode M_of) 38 [(.aload_n 0, 1, 0, 0, 0), (.getfield 161, 3, 0, 11, 3)] 42 = true := by decide +kernel
theorem M_of_s43 : zseg (zown M_of) (zcode M_of) 43 [(.aload_n 0, 1, 0, 0, 0), (.iload_n 1, 1, 0, 0, 0), (.iload_n 2, 1, 0, 0, 0)] 46 = true := by decide +kernel
theorem M_of_s52 : zseg (zown M_of) (zcode M_of) 52 [(.aload_n 0, 1, 0, 0, 0), (.iload_n 1, 1, 0, 0, 0), (.iload_n 2, 1, 0, 0, 0)] 55 = true := by decide +kernel
theorem M_of_s58 : zseg (zown M_of) (zcode M_of) 58 [(.goto 4, 3, 0, 0, 0)] 62 = true := by decide +kernel
theorem M_of_s61 : zseg (zown M_of) (zcode M_of) 61 [(.iconst (-1), 1, (-1), 0, 0)] 62 = true := by decide +kernel
theorem M_of_d3 : decode (zcode M_of) 3 = .ok (.if_icmp .ne 25, 3) := by decide +kernel
theorem M_of_d8 : decode (zcode M_of) 8 = .ok (.invokevirtual 131, 3) := by decide +kernel
theorem M_of_d11 : decode (zcode M_of) 11 = .ok (.ifCond .eq 17, 3) := by decide +kernel
theorem M_of_d21 : decode (zcode M_of) 21 = .ok (.invokevirtual 164, 3) := by decide +kernel
theorem M_of_d24 : decode (zcode M_of) 24 = .ok (.invokevirtual 167, 3) := by decide +kernel
theorem M_of_d27 : decode (zcode M_of) 27 = .ok (.ireturn, 1) := by decide +kernel
theorem M_of_d31 : decode (zcode M_of) 31 = .ok (.if_icmp .ne 12, 3) := by decide +kernel
theorem M_of_d35 : decode (zcode M_of) 35 = .ok (.ifCond .ne 8, 3) := by decide +kernel
theorem M_of_d42 : decode (zcode M_of) 42 = .ok (.ireturn, 1) := by decide +kernel
theorem M_of_d46 : decode (zcode M_of) 46 = .ok (.invokevirtual 137, 3) := by decide +kernel
theorem M_of_d49 : decode (zcode M_of) 49 = .ok (.ifCond .eq 12, 3) := by decide +kernel
theorem M_of_d55 : decode (zcode M_of) 55 = .ok (.invokevirtual 148, 3) := by decide +kernel
theorem M_of_d62 : decode (zcode M_of) 62 = .ok (.ireturn, 1) := by decide +kernel
theorem M_feed_s0 : zseg (zown M_feed) (zcode M_feed) 0 [(.aload_n 0, 1, 0, 0, 0), (.iload_n 1, 1, 0, 0, 0), (.iconst 0, 1, 0, 0, 0), (.sipush 255, 3, 255, 0, 0)] 6 = true := by decide +kernel
theorem M_feed_s12 : zseg (zown M_feed) (zcode M_feed) 12 [(.iconst (-1), 1, (-1), 0, 0)] 13 = true := by decide +kernel
theorem M_feed_s14 : zseg (zown M_feed) (zcode M_feed) 14 [(.aload_n 0, 1, 0, 0, 0), (.getfield 171, 3, 0, 11, 4), (.bipush 120, 2, 120, 0, 0)] 20 = true := by decide +kernel
theorem M_feed_s23 : zseg (zown M_feed) (zcode M_feed) 23 [(.bipush (-3), 2, (-3), 0, 0)] 25 = true := by decide +kernel
theorem M_feed_s26 : zseg (zown M_feed) (zcode M_feed) 26 [(.aload_n 0, 1, 0, 0, 0), (.getfield 35, 3, 0, 11, 16), (.aload_n 0, 1, 0, 0, 0), (.getfield 171, 3, 0, 11, 4), (.iload_n 1, 1, 0, 0, 0), (.iastore, 1, 0, 0, 0), (.aload_n 0, 1, 0, 0, 0), (.dup, 1, 0, 0, 0), (.getfield 171, 3, 0, 11, 4), (.iconst 1, 1, 1, 0, 0), (.iadd, 1, 0, 0, 0), (.putfield 171, 3, 0, 11, 4), (.aload_n 0, 1, 0, 0, 0), (.getfield 171, 3, 0, 11, 4)] 50 = true := by decide +kernel
theorem M_feed_d6 : decode (zcode M_feed) 6 = .ok (.invokevirtual 112, 3) := by decide +kernel
theorem M_feed_d9 : decode (zcode M_feed) 9 = .ok (.ifCond .ne 5, 3) := by decide +kernel
theorem M_feed_d13 : decode (zcode M_feed) 13 = .ok (.ireturn, 1) := by decide +kernel
theorem M_feed_d20 : decode (zcode M_feed) 20 = .ok (.if_icmp .ne 6, 3) := by decide +kernel
theorem M_feed_d25 : decode (zcode M_feed) 25 = .ok (.ireturn, 1) := by decide +kernel
theorem M_feed_d50 : decode (zcode M_feed) 50 = .ok (.ireturn, 1) := by decide +kernel
theorem M_next_s0 : zseg (zown M_next) (zcode M_next) 0 [(.aload_n 0, 1, 0, 0, 0), (.getfield 174, 3, 0, 11, 24), (.aload_n 0, 1, 0, 0, 0), (.getfield 171, 3, 0, 11, 4)] 8 = true := by decide +kernel
theorem M_next_s11 : zseg (zown M_next) (zcode M_next) 11 [(.aload_n 0, 1, 0, 0, 0), (.getfield 35, 3, 0, 11, 16), (.aload_n 0, 1, 0, 0, 0), (.getfield 174, 3, 0, 11, 24), (.iaload, 1, 0, 0, 0), (.goto 4, 3, 0, 0, 0)] 24 = true := by decide +kernel
theorem M_next_s23 : zseg (zown M_next) (zcode M_next) 23 [(.iconst (-1), 1, (-1), 0, 0)] 24 = true := by decide +kernel
theorem M_next_d8 : decode (zcode M_next) 8 = .ok (.if_icmp .ge 15, 3) := by decide +kernel
theorem M_next_d24 : decode (zcode M_next) 24 = .ok (.ireturn, 1) := by decide +kernel
theorem M_isNext_s0 : zseg (zown M_isNext) (zcode M_isNext) 0 [(.aload_n 0, 1, 0, 0, 0), (.getfield 177, 3, 0, 11, 26)] 4 = true := by decide +kernel
theorem M_isNext_s7 : zseg (zown M_isNext) (zcode M_isNext) 7 [(.aload_n 0, 1, 0, 0, 0)] 8 = true := by decide +kernel
theorem M_isNext_s11 : zseg (zown M_isNext) (zcode M_isNext) 11 [(.iload_n 1, 1, 0, 0, 0)] 12 = true := by decide +kernel
theorem M_isNext_s15 : zseg (zown M_isNext) (zcode M_isNext) 15 [(.iconst 0, 1, 0, 0, 0)] 16 = true := by decide +kernel
theorem M_isNext_s17 : zseg (zown M_isNext) (zcode M_isNext) 17 [(.aload_n 0, 1, 0, 0, 0), (.dup, 1, 0, 0, 0), (.getfield 174, 3, 0, 11, 24), (.iconst 1, 1, 1, 0, 0), (.iadd, 1, 0, 0, 0), (.putfield 174, 3, 0, 11, 24), (.iconst 1, 1, 1, 0, 0)] 28 = true := by decide +kernel
theorem M_isNext_d4 : decode (zcode M_isNext) 4 = .ok (.ifCond .eq 11, 3) := by decide +kernel
theorem M_isNext_d8 : decode (zcode M_isNext) 8 = .ok (.invokevirtual 181, 3) := by decide +kernel
theorem M_isNext_d12 : decode (zcode M_isNext) 12 = .ok (.if_icmp .eq 5, 3) := by decide +kernel
theorem M_isNext_d16 : decode (zcode M_isNext) 16 = .ok (.ireturn, 1) := by decide +kernel
theorem M_isNext_d28 : decode (zcode M_isNext) 28 = .ok (.ireturn, 1) := by decide +kernel
theorem M_isDigit_s0 : zseg (zown M_isDigit) (zcode M_isDigit) 0 [(.iload_n 1, 1, 0, 0, 0), (.bipush 48, 2, 48, 0, 0)] 3 = true := by decide +kernel
theorem M_isDigit_s6 : zseg (zown M_isDigit) (zcode M_isDigit) 6 [(.iload_n 1, 1, 0, 0, 0), (.bipush 57, 2, 57, 0, 0)] 9 = true := by decide +kernel
theorem M_isDigit_s12 : zseg (zown M_isDigit) (zcode M_isDigit) 12 [(.iconst 1, 1, 1, 0, 0), (.goto 4, 3, 0, 0, 0)] 17 = true := by decide +kernel
theorem M_isDigit_s16 : zseg (zown M_isDigit) (zcode M_isDigit) 16 [(.iconst 0, 1, 0, 0, 0)] 17 = true := by decide +kernel
theorem M_isDigit_d3 : decode (zcode M_isDigit) 3 = .ok (.if_icmp .lt 13, 3) := by decide +kernel
theorem M_isDigit_d9 : decode (zcode M_isDigit) 9 = .ok (.if_icmp .gt 7, 3) := by decide +kernel
theorem M_isDigit_d17 : decode (zcode M_isDigit) 17 = .ok (.ireturn, 1) := by decide +kernel
theorem M_isName_s0 : zseg (zown M_isName) (zcode M_isName) 0 [(.iload_n 1, 1, 0, 0, 0), (.bipush 119, 2, 119, 0, 0)] 3 = true := by decide +kernel
theorem M_isName_s6 : zseg (zown M_isName) (zcode M_isName) 6 [(.iload_n 1, 1, 0, 0, 0), (.bipush 107, 2, 107, 0, 0)] 9 = true := by decide +kernel
theorem M_isName_s12 : zseg (zown M_isName) (zcode M_isName) 12 [(.iload_n 1, 1, 0, 0, 0), (.bipush 100, 2, 100, 0, 0)] 15 = true := by decide +kernel
theorem M_isName_s18 : zseg (zown M_isName) (zcode M_isName) 18 [(.iload_n 1, 1, 0, 0, 0), (.bipush 104, 2, 104, 0, 0)] 21 = true := by decide +kernel
theorem M_isName_s24 : zseg (zown M_isName) (zcode M_isName) 24 [(.iload_n 1, 1, 0, 0, 0), (.bipush 98, 2, 98, 0, 0)] 27 = true := by decide +kernel
theorem M_isName_s30 : zseg (zown M_isName) (zcode M_isName) 30 [(.iload_n 1, 1, 0, 0, 0), (.bipush 112, 2, 112, 0, 0)] 33 = true := by decide +kernel
theorem M_isName_s36 : zseg (zown M_isName) (zcode M_isName) 36 [(.iconst 1, 1, 1, 0, 0), (.goto 4, 3, 0, 0, 0)] 41 = true := by decide +kernel
theorem M_isName_s40 : zseg (zown M_isName) (zcode M_isName) 40 [(.iconst 0, 1, 0, 0, 0)] 41 = true := by decide +kernel
theorem M_isName_d3 : decode (zcode M_isName) 3 = .ok (.if_icmp .eq 33, 3) := by decide +kernel
theorem M_isName_d9 : decode (zcode M_isName) 9 = .ok (.if_icmp .eq 27, 3) := by decide +kernel
theorem M_isName_d15 : decode (zcode M_isName) 15 = .ok (.if_icmp .eq 21, 3) := by decide +kernel
theorem M_isName_d21 : decode (zcode M_isName) 21 = .ok (.if_icmp .eq 15, 3) := by decide +kernel
theorem M_isName_d27 : decode (zcode M_isName) 27 = .ok (.if_icmp .eq 9, 3) := by decide +kernel
theorem M_isName_d33 : decode (zcode M_isName) 33 = .ok (.if_icmp .ne 7, 3) := by decide +kernel
theorem M_isName_d41 : decode (zcode M_isName) 41 = .ok (.ireturn, 1) := by decide +kernel
theorem M_readsO_s0 : zseg (zown M_readsO) (zcode M_readsO) 0 [(.aload_n 0, 1, 0, 0, 0), (.getfield 177, 3, 0, 11, 26)] 4 = true := by decide +kernel
theorem M_readsO_s8 : zseg (zown M_readsO) (zcode M_readsO) 8 [(.aload_n 0, 1, 0, 0, 0)] 9 = true := by decide +kernel
theorem M_readsO_s12 : zseg (zown M_readsO) (zcode M_readsO) 12 [(.istore_n 1, 1, 0, 0, 0), (.aload_n 0, 1, 0, 0, 0), (.iload_n 1, 1, 0, 0, 0)] 15 = true := by decide +kernel
theorem M_readsO_s21 : zseg (zown M_readsO) (zcode M_readsO) 21 [(.iconst 0, 1, 0, 0, 0), (.istore_n 2, 1, 0, 0, 0)] 23 = true := by decide +kernel
theorem M_readsO_s23 : zseg (zown M_readsO) (zcode M_readsO) 23 [(.iload_n 2, 1, 0, 0, 0), (.iconst 4, 1, 4, 0, 0)] 25 = true := by decide +kernel
theorem M_readsO_s28 : zseg (zown M_readsO) (zcode M_readsO) 28 [(.aload_n 0, 1, 0, 0, 0), (.aload_n 0, 1, 0, 0, 0)] 30 = true := by decide +kernel
theorem M_readsO_s39 : zseg (zown M_readsO) (zcode M_readsO) 39 [(.aload_n 0, 1, 0, 0, 0), (.dup, 1, 0, 0, 0), (.getfield 174, 3, 0, 11, 24), (.iconst 1, 1, 1, 0, 0), (.iadd, 1, 0, 0, 0), (.putfield 174, 3, 0, 11, 24), (.iinc 2 1, 3, 1, 0, 0), (.goto (-29), 3, 0, 0, 0)] 23 = true := by decide +kernel
theorem M_readsO_s56 : zseg (zown M_readsO) (zcode M_readsO) 56 [(.aload_n 0, 1, 0, 0, 0), (.iload_n 1, 1, 0, 0, 0)] 58 = true := by decide +kernel
theorem M_readsO_s64 : zseg (zown M_readsO) (zcode M_readsO) 64 [(.aload_n 0, 1, 0, 0, 0), (.dup, 1, 0, 0, 0), (.getfield 174, 3, 0, 11, 24), (.iconst 1, 1, 1, 0, 0), (.iadd, 1, 0, 0, 0), (.putfield 174, 3, 0, 11, 24)] 74 = true := by decide +kernel
theorem M_readsO_s75 : zseg (zown M_readsO) (zcode M_readsO) 75 [(.iload_n 1, 1, 0, 0, 0), (.bipush 33, 2, 33, 0, 0)] 78 = true := by decide +kernel
theorem M_readsO_s81 : zseg (zown M_readsO) (zcode M_readsO) 81 [(.iload_n 1, 1, 0, 0, 0), (.bipush 45, 2, 45, 0, 0)] 84 = true := by decide +kernel
theorem M_readsO_s87 : zseg (zown M_readsO) (zcode M_readsO) 87 [(.iload_n 1, 1, 0, 0, 0), (.bipush 40, 2, 40, 0, 0)] 90 = true := by decide +kernel
theorem M_readsO_s93 : zseg (zown M_readsO) (zcode M_readsO) 93 [(.aload_n 0, 1, 0, 0, 0), (.getfield 191, 3, 0, 11, 25), (.bipush 6, 2, 6, 0, 0)] 99 = true := by decide +kernel
theorem M_readsO_s102 : zseg (zown M_readsO) (zcode M_readsO) 102 [(.aload_n 0, 1, 0, 0, 0), (.iconst 0, 1, 0, 0, 0), (.putfield 177, 3, 0, 11, 26)] 107 = true := by decide +kernel
theorem M_readsO_s108 : zseg (zown M_readsO) (zcode M_readsO) 108 [(.aload_n 0, 1, 0, 0, 0), (.dup, 1, 0, 0, 0), (.getfield 174, 3, 0, 11, 24), (.iconst 1, 1, 1, 0, 0), (.iadd, 1, 0, 0, 0), (.putfield 174, 3, 0, 11, 24), (.aload_n 0, 1, 0, 0, 0), (.dup, 1, 0, 0, 0), (.getfield 191, 3, 0, 11, 25), (.iconst 1, 1, 1, 0, 0), (.iadd, 1, 0, 0, 0), (.putfield 191, 3, 0, 11, 25), (.iload_n 1, 1, 0, 0, 0), (.bipush 40, 2, 40, 0, 0)] 131 = true := by decide +kernel
theorem M_readsO_s134 : zseg (zown M_readsO) (zcode M_readsO) 134 [(.aload_n 0, 1, 0, 0, 0)] 135 = true := by decide +kernel
theorem M_readsO_s138 : zseg (zown M_readsO) (zcode M_readsO) 138 [(.aload_n 0, 1, 0, 0, 0), (.getfield 177, 3, 0, 11, 26)] 142 = true := by decide +kernel
theorem M_readsO_s145 : zseg (zown M_readsO) (zcode M_readsO) 145 [(.aload_n 0, 1, 0, 0, 0), (.bipush 41, 2, 41, 0, 0)] 148 = true := by decide +kernel
theorem M_readsO_s154 : zseg (zown M_readsO) (zcode M_readsO) 154 [(.aload_n 0, 1, 0, 0, 0), (.iconst 0, 1, 0, 0, 0), (.putfield 177, 3, 0, 11, 26), (.goto 7, 3, 0, 0, 0), (.aload_n 0, 1, 0, 0, 0), (.dup, 1, 0, 0, 0), (.getfield 191, 3, 0, 11, 25), (.iconst 1, 1, 1, 0, 0), (.isub, 1, 0, 0, 0), (.putfield 191, 3, 0, 11, 25)] 176 = true := by decide +kernel
theorem M_readsO_s162 : zseg (zown M_readsO) (zcode M_readsO) 162 [(.aload_n 0, 1, 0, 0, 0)] 163 = true := by decide +kernel
theorem M_readsO_s166 : zseg (zown M_readsO) (zcode M_readsO) 166 [(.aload_n 0, 1, 0, 0, 0), (.dup, 1, 0, 0, 0), (.getfield 191, 3, 0, 11, 25), (.iconst 1, 1, 1, 0, 0), (.isub, 1, 0, 0, 0), (.putfield 191, 3, 0, 11, 25)] 176 = true := by decide +kernel
theorem M_readsO_d4 : decode (zcode M_readsO) 4 = .ok (.ifCond .ne 4, 3) := by decide +kernel
theorem M_readsO_d7 : decode (zcode M_readsO) 7 = .ok (.return_, 1) := by decide +kernel
theorem M_readsO_d9 : decode (zcode M_readsO) 9 = .ok (.invokevirtual 181, 3) := by decide +kernel
theorem M_readsO_d15 : decode (zcode M_readsO) 15 = .ok (.invokevirtual 185, 3) := by decide +kernel
theorem M_readsO_d18 : decode (zcode M_readsO) 18 = .ok (.ifCond .eq 38, 3) := by decide +kernel
theorem M_readsO_d25 : decode (zcode M_readsO) 25 = .ok (.if_icmp .ge 30, 3) := by decide +kernel
theorem M_readsO_d30 : decode (zcode M_readsO) 30 = .ok (.invokevirtual 181, 3) := by decide +kernel
theorem M_readsO_d33 : decode (zcode M_readsO) 33 = .ok (.invokevirtual 185, 3) := by decide +kernel
theorem M_readsO_d36 : decode (zcode M_readsO) 36 = .ok (.ifCond .eq 19, 3) := by decide +kernel
theorem M_readsO_d55 : decode (zcode M_readsO) 55 = .ok (.return_, 1) := by decide +kernel
theorem M_readsO_d58 : decode (zcode M_readsO) 58 = .ok (.invokevirtual 188, 3) := by decide +kernel
theorem M_readsO_d61 : decode (zcode M_readsO) 61 = .ok (.ifCond .eq 14, 3) := by decide +kernel
theorem M_readsO_d74 : decode (zcode M_readsO) 74 = .ok (.return_, 1) := by decide +kernel
theorem M_readsO_d78 : decode (zcode M_readsO) 78 = .ok (.if_icmp .eq 15, 3) := by decide +kernel
theorem M_readsO_d84 : decode (zcode M_readsO) 84 = .ok (.if_icmp .eq 9, 3) := by decide +kernel
theorem M_readsO_d90 : decode (zcode M_readsO) 90 = .ok (.if_icmp .ne 12, 3) := by decide +kernel
theorem M_readsO_d99 : decode (zcode M_readsO) 99 = .ok (.if_icmp .ne 9, 3) := by decide +kernel
theorem M_readsO_d107 : decode (zcode M_readsO) 107 = .ok (.return_, 1) := by decide +kernel
theorem M_readsO_d131 : decode (zcode M_readsO) 131 = .ok (.if_icmp .ne 31, 3) := by decide +kernel
theorem M_readsO_d135 : decode (zcode M_readsO) 135 = .ok (.invokevirtual 194, 3) := by decide +kernel
theorem M_readsO_d142 : decode (zcode M_readsO) 142 = .ok (.ifCond .eq 24, 3) := by decide +kernel
theorem M_readsO_d148 : decode (zcode M_readsO) 148 = .ok (.invokevirtual 197, 3) := by decide +kernel
theorem M_readsO_d151 : decode (zcode M_readsO) 151 = .ok (.ifCond .ne 15, 3) := by decide +kernel
theorem M_readsO_d176 : decode (zcode M_readsO) 176 = .ok (.return_, 1) := by decide +kernel
theorem M_readsO_d163 : decode (zcode M_readsO) 163 = .ok (.invokevirtual 201, 3) := by decide +kernel
theorem M_readsP_s0 : zseg (zown M_readsP) (zcode M_readsP) 0 [(.aload_n 0, 1, 0, 0, 0)] 1 = true := by decide +kernel
theorem M_readsP_s4 : zseg (zown M_readsP) (zcode M_readsP) 4 [(.aload_n 0, 1, 0, 0, 0), (.bipush 42, 2, 42, 0, 0)] 7 = true := by decide +kernel
theorem M_readsP_s13 : zseg (zown M_readsP) (zcode M_readsP) 13 [(.aload_n 0, 1, 0, 0, 0), (.bipush 47, 2, 47, 0, 0)] 16 = true := by decide +kernel
theorem M_readsP_s22 : zseg (zown M_readsP) (zcode M_readsP) 22 [(.aload_n 0, 1, 0, 0, 0), (.bipush 37, 2, 37, 0, 0)] 25 = true := by decide +kernel
theorem M_readsP_s31 : zseg (zown M_readsP) (zcode M_readsP) 31 [(.aload_n 0, 1, 0, 0, 0)] 32 = true := by decide +kernel
theorem M_readsP_s35 : zseg (zown M_readsP) (zcode M_readsP) 35 [(.goto (-31), 3, 0, 0, 0)] 4 = true := by decide +kernel
theorem M_readsP_d1 : decode (zcode M_readsP) 1 = .ok (.invokevirtual 201, 3) := by decide +kernel
theorem M_readsP_d7 : decode (zcode M_readsP) 7 = .ok (.invokevirtual 197, 3) := by decide +kernel
theorem M_readsP_d10 : decode (zcode M_readsP) 10 = .ok (.ifCond .ne 21, 3) := by decide +kernel
theorem M_readsP_d16 : decode (zcode M_readsP) 16 = .ok (.invokevirtual 197, 3) := by decide +kernel
theorem M_readsP_d19 : decode (zcode M_readsP) 19 = .ok (.ifCond .ne 12, 3) := by decide +kernel
theorem M_readsP_d25 : decode (zcode M_readsP) 25 = .ok (.invokevirtual 197, 3) := by decide +kernel
theorem M_readsP_d28 : decode (zcode M_readsP) 28 = .ok (.ifCond .eq 10, 3) := by decide +kernel
theorem M_readsP_d32 : decode (zcode M_readsP) 32 = .ok (.invokevirtual 201, 3) := by decide +kernel
theorem M_readsP_d38 : decode (zcode M_readsP) 38 = .ok (.return_, 1) := by decide +kernel
theorem M_readsS_s0 : zseg (zown M_readsS) (zcode M_readsS) 0 [(.aload_n 0, 1, 0, 0, 0)] 1 = true := by decide +kernel
theorem M_readsS_s4 : zseg (zown M_readsS) (zcode M_readsS) 4 [(.aload_n 0, 1, 0, 0, 0), (.bipush 43, 2, 43, 0, 0)] 7 = true := by decide +kernel
theorem M_readsS_s13 : zseg (zown M_readsS) (zcode M_readsS) 13 [(.aload_n 0, 1, 0, 0, 0), (.bipush 45, 2, 45, 0, 0)] 16 = true := by decide +kernel
theorem M_readsS_s22 : zseg (zown M_readsS) (zcode M_readsS) 22 [(.aload_n 0, 1, 0, 0, 0)] 23 = true := by decide +kernel
theorem M_readsS_s26 : zseg (zown M_readsS) (zcode M_readsS) 26 [(.goto (-22), 3, 0, 0, 0)] 4 = true := by decide +kernel
theorem M_readsS_d1 : decode (zcode M_readsS) 1 = .ok (.invokevirtual 204, 3) := by decide +kernel
theorem M_readsS_d7 : decode (zcode M_readsS) 7 = .ok (.invokevirtual 197, 3) := by decide +kernel
theorem M_readsS_d10 : decode (zcode M_readsS) 10 = .ok (.ifCond .ne 12, 3) := by decide +kernel
theorem M_readsS_d16 : decode (zcode M_readsS) 16 = .ok (.invokevirtual 197, 3) := by decide +kernel
theorem M_readsS_d19 : decode (zcode M_readsS) 19 = .ok (.ifCond .eq 10, 3) := by decide +kernel
theorem M_readsS_d23 : decode (zcode M_readsS) 23 = .ok (.invokevirtual 204, 3) := by decide +kernel
theorem M_readsS_d29 : decode (zcode M_readsS) 29 = .ok (.return_, 1) := by decide +kernel
theorem M_readsB_s0 : zseg (zown M_readsB) (zcode M_readsB) 0 [(.aload_n 0, 1, 0, 0, 0)] 1 = true := by decide +kernel
theorem M_readsB_s4 : zseg (zown M_readsB) (zcode M_readsB) 4 [(.aload_n 0, 1, 0, 0, 0), (.bipush 60, 2, 60, 0, 0)] 7 = true := by decide +kernel
theorem M_readsB_s13 : zseg (zown M_readsB) (zcode M_readsB) 13 [(.aload_n 0, 1, 0, 0, 0), (.bipush 61, 2, 61, 0, 0)] 16 = true := by decide +kernel
theorem M_readsB_s22 : zseg (zown M_readsB) (zcode M_readsB) 22 [(.aload_n 0, 1, 0, 0, 0), (.bipush 62, 2, 62, 0, 0)] 25 = true := by decide +kernel
theorem M_readsB_s31 : zseg (zown M_readsB) (zcode M_readsB) 31 [(.aload_n 0, 1, 0, 0, 0)] 32 = true := by decide +kernel
theorem M_readsB_d1 : decode (zcode M_readsB) 1 = .ok (.invokevirtual 207, 3) := by decide +kernel
theorem M_readsB_d7 : decode (zcode M_readsB) 7 = .ok (.invokevirtual 197, 3) := by decide +kernel
theorem M_readsB_d10 : decode (zcode M_readsB) 10 = .ok (.ifCond .ne 21, 3) := by decide +kernel
theorem M_readsB_d16 : decode (zcode M_readsB) 16 = .ok (.invokevirtual 197, 3) := by decide +kernel
theorem M_readsB_d19 : decode (zcode M_readsB) 19 = .ok (.ifCond .ne 12, 3) := by decide +kernel
theorem M_readsB_d25 : decode (zcode M_readsB) 25 = .ok (.invokevirtual 197, 3) := by decide +kernel
theorem M_readsB_d28 : decode (zcode M_readsB) 28 = .ok (.ifCond .eq 7, 3) := by decide +kernel
theorem M_readsB_d32 : decode (zcode M_readsB) 32 = .ok (.invokevirtual 207, 3) := by decide +kernel
theorem M_readsB_d35 : decode (zcode M_readsB) 35 = .ok (.return_, 1) := by decide +kernel
theorem M_readsA_s0 : zseg (zown M_readsA) (zcode M_readsA) 0 [(.aload_n 0, 1, 0, 0, 0)] 1 = true := by decide +kernel
theorem M_readsA_s4 : zseg (zown M_readsA) (zcode M_readsA) 4 [(.aload_n 0, 1, 0, 0, 0), (.bipush 38, 2, 38, 0, 0)] 7 = true := by decide +kernel
theorem M_readsA_s13 : zseg (zown M_readsA) (zcode M_readsA) 13 [(.aload_n 0, 1, 0, 0, 0)] 14 = true := by decide +kernel
theorem M_readsA_s17 : zseg (zown M_readsA) (zcode M_readsA) 17 [(.goto (-13), 3, 0, 0, 0)] 4 = true := by decide +kernel
theorem M_readsA_d1 : decode (zcode M_readsA) 1 = .ok (.invokevirtual 210, 3) := by decide +kernel
theorem M_readsA_d7 : decode (zcode M_readsA) 7 = .ok (.invokevirtual 197, 3) := by decide +kernel
theorem M_readsA_d10 : decode (zcode M_readsA) 10 = .ok (.ifCond .eq 10, 3) := by decide +kernel
theorem M_readsA_d14 : decode (zcode M_readsA) 14 = .ok (.invokevirtual 210, 3) := by decide +kernel
theorem M_readsA_d20 : decode (zcode M_readsA) 20 = .ok (.return_, 1) := by decide +kernel
theorem M_readsE_s0 : zseg (zown M_readsE) (zcode M_readsE) 0 [(.aload_n 0, 1, 0, 0, 0)] 1 = true := by decide +kernel
theorem M_readsE_s4 : zseg (zown M_readsE) (zcode M_readsE) 4 [(.aload_n 0, 1, 0, 0, 0), (.bipush 124, 2, 124, 0, 0)] 7 = true := by decide +kernel
theorem M_readsE_s13 : zseg (zown M_readsE) (zcode M_readsE) 13 [(.aload_n 0, 1, 0, 0, 0)] 14 = true := by decide +kernel
theorem M_readsE_s17 : zseg (zown M_readsE) (zcode M_readsE) 17 [(.goto (-13), 3, 0, 0, 0)] 4 = true := by decide +kernel
theorem M_readsE_d1 : decode (zcode M_readsE) 1 = .ok (.invokevirtual 213, 3) := by decide +kernel
theorem M_readsE_d7 : decode (zcode M_readsE) 7 = .ok (.invokevirtual 197, 3) := by decide +kernel
theorem M_readsE_d10 : decode (zcode M_readsE) 10 = .ok (.ifCond .eq 10, 3) := by decide +kernel
theorem M_readsE_d14 : decode (zcode M_readsE) 14 = .ok (.invokevirtual 213, 3) := by decide +kernel
theorem M_readsE_d20 : decode (zcode M_readsE) 20 = .ok (.return_, 1) := by decide +kernel
theorem M_readsLine_s0 : zseg (zown M_readsLine) (zcode M_readsLine) 0 [(.aload_n 0, 1, 0, 0, 0)] 1 = true := by decide +kernel
theorem M_readsLine_s4 : zseg (zown M_readsLine) (zcode M_readsLine) 4 [(.aload_n 0, 1, 0, 0, 0), (.bipush 63, 2, 63, 0, 0)] 7 = true := by decide +kernel
theorem M_readsLine_s13 : zseg (zown M_readsLine) (zcode M_readsLine) 13 [(.aload_n 0, 1, 0, 0, 0)] 14 = true := by decide +kernel
theorem M_readsLine_d1 : decode (zcode M_readsLine) 1 = .ok (.invokevirtual 194, 3) := by decide +kernel
theorem M_readsLine_d7 : decode (zcode M_readsLine) 7 = .ok (.invokevirtual 197, 3) := by decide +kernel
theorem M_readsLine_d10 : decode (zcode M_readsLine) 10 = .ok (.ifCond .eq 7, 3) := by decide +kernel
theorem M_readsLine_d14 : decode (zcode M_readsLine) 14 = .ok (.invokevirtual 194, 3) := by decide +kernel
theorem M_readsLine_d17 : decode (zcode M_readsLine) 17 = .ok (.return_, 1) := by decide +kernel
theorem M_law_s0 : zseg (zown M_law) (zcode M_law) 0 [(.aload_n 0, 1, 0, 0, 0), (.iconst 0, 1, 0, 0, 0), (.putfield 174, 3, 0, 11, 24), (.aload_n 0, 1, 0, 0, 0), (.iconst 0, 1, 0, 0, 0), (.putfield 191, 3, 0, 11, 25), (.aload_n 0, 1, 0, 0, 0), (.iconst 1, 1, 1, 0, 0), (.putfield 177, 3, 0, 11, 26), (.aload_n 0, 1, 0, 0, 0)] 16 = true := by decide +kernel
theorem M_law_s19 : zseg (zown M_law) (zcode M_law) 19 [(.aload_n 0, 1, 0, 0, 0), (.bipush 59, 2, 59, 0, 0)] 22 = true := by decide +kernel
theorem M_law_s28 : zseg (zown M_law) (zcode M_law) 28 [(.aload_n 0, 1, 0, 0, 0)] 29 = true := by decide +kernel
theorem M_law_s32 : zseg (zown M_law) (zcode M_law) 32 [(.goto (-13), 3, 0, 0, 0)] 19 = true := by decide +kernel
theorem M_law_s35 : zseg (zown M_law) (zcode M_law) 35 [(.aload_n 0, 1, 0, 0, 0), (.getfield 177, 3, 0, 11, 26)] 39 = true := by decide +kernel
theorem M_law_s42 : zseg (zown M_law) (zcode M_law) 42 [(.aload_n 0, 1, 0, 0, 0), (.getfield 174, 3, 0, 11, 24), (.aload_n 0, 1, 0, 0, 0), (.getfield 171, 3, 0, 11, 4)] 50 = true := by decide +kernel
theorem M_law_s53 : zseg (zown M_law) (zcode M_law) 53 [(.iconst 1, 1, 1, 0, 0), (.goto 4, 3, 0, 0, 0), (.istore_n 1, 1, 0, 0, 0), (.aload_n 0, 1, 0, 0, 0), (.getfield 174, 3, 0, 11, 24), (.istore_n 2, 1, 0, 0, 0), (.iload_n 1, 1, 0, 0, 0)] 65 = true := by decide +kernel
theorem M_law_s57 : zseg (zown M_law) (zcode M_law) 57 [(.iconst 0, 1, 0, 0, 0), (.istore_n 1, 1, 0, 0, 0), (.aload_n 0, 1, 0, 0, 0), (.getfield 174, 3, 0, 11, 24), (.istore_n 2, 1, 0, 0, 0), (.iload_n 1, 1, 0, 0, 0)] 65 = true := by decide +kernel
theorem M_law_s68 : zseg (zown M_law) (zcode M_law) 68 [(.iconst 0, 1, 0, 0, 0), (.istore_n 3, 1, 0, 0, 0)] 70 = true := by decide +kernel
theorem M_law_s70 : zseg (zown M_law) (zcode M_law) 70 [(.iload_n 3, 1, 0, 0, 0), (.aload_n 0, 1, 0, 0, 0), (.getfield 171, 3, 0, 11, 4)] 75 = true := by decide +kernel
theorem M_law_s78 : zseg (zown M_law) (zcode M_law) 78 [(.aload_n 0, 1, 0, 0, 0), (.getfield 38, 3, 0, 11, 17), (.iload_n 3, 1, 0, 0, 0), (.aload_n 0, 1, 0, 0, 0), (.getfield 35, 3, 0, 11, 16), (.iload_n 3, 1, 0, 0, 0), (.iaload, 1, 0, 0, 0), (.iastore, 1, 0, 0, 0), (.iinc 3 1, 3, 1, 0, 0), (.goto (-23), 3, 0, 0, 0)] 70 = true := by decide +kernel
theorem M_law_s96 : zseg (zown M_law) (zcode M_law) 96 [(.aload_n 0, 1, 0, 0, 0), (.aload_n 0, 1, 0, 0, 0), (.getfield 171, 3, 0, 11, 4), (.putfield 219, 3, 0, 11, 5), (.aload_n 0, 1, 0, 0, 0), (.iconst 1, 1, 1, 0, 0), (.putfield 222, 3, 0, 11, 8), (.aload_n 0, 1, 0, 0, 0), (.iconst 0, 1, 0, 0, 0), (.putfield 171, 3, 0, 11, 4), (.iload_n 1, 1, 0, 0, 0)] 115 = true := by decide +kernel
theorem M_law_s109 : zseg (zown M_law) (zcode M_law) 109 [(.aload_n 0, 1, 0, 0, 0), (.iconst 0, 1, 0, 0, 0), (.putfield 171, 3, 0, 11, 4), (.iload_n 1, 1, 0, 0, 0)] 115 = true := by decide +kernel
theorem M_law_s118 : zseg (zown M_law) (zcode M_law) 118 [(.iconst 1, 1, 1, 0, 0), (.goto 7, 3, 0, 0, 0)] 126 = true := by decide +kernel
theorem M_law_s122 : zseg (zown M_law) (zcode M_law) 122 [(.bipush (-100), 2, (-100), 0, 0), (.iload_n 2, 1, 0, 0, 0), (.isub, 1, 0, 0, 0)] 126 = true := by decide +kernel
theorem M_law_d16 : decode (zcode M_law) 16 = .ok (.invokevirtual 216, 3) := by decide +kernel
theorem M_law_d22 : decode (zcode M_law) 22 = .ok (.invokevirtual 197, 3) := by decide +kernel
theorem M_law_d25 : decode (zcode M_law) 25 = .ok (.ifCond .eq 10, 3) := by decide +kernel
theorem M_law_d29 : decode (zcode M_law) 29 = .ok (.invokevirtual 216, 3) := by decide +kernel
theorem M_law_d39 : decode (zcode M_law) 39 = .ok (.ifCond .eq 18, 3) := by decide +kernel
theorem M_law_d50 : decode (zcode M_law) 50 = .ok (.if_icmp .ne 7, 3) := by decide +kernel
theorem M_law_d65 : decode (zcode M_law) 65 = .ok (.ifCond .eq 44, 3) := by decide +kernel
theorem M_law_d75 : decode (zcode M_law) 75 = .ok (.if_icmp .ge 21, 3) := by decide +kernel
theorem M_law_d115 : decode (zcode M_law) 115 = .ok (.ifCond .eq 7, 3) := by decide +kernel
theorem M_law_d126 : decode (zcode M_law) 126 = .ok (.ireturn, 1) := by decide +kernel
theorem M_seen_s0 : zseg (zown M_seen) (zcode M_seen) 0 [(.aload_n 0, 1, 0, 0, 0), (.getfield 174, 3, 0, 11, 24), (.aload_n 0, 1, 0, 0, 0), (.getfield 219, 3, 0, 11, 5)] 8 = true := by decide +kernel
theorem M_seen_s11 : zseg (zown M_seen) (zcode M_seen) 11 [(.aload_n 0, 1, 0, 0, 0), (.getfield 38, 3, 0, 11, 17), (.aload_n 0, 1, 0, 0, 0), (.getfield 174, 3, 0, 11, 24), (.iaload, 1, 0, 0, 0), (.goto 4, 3, 0, 0, 0)] 24 = true := by decide +kernel
theorem M_seen_s23 : zseg (zown M_seen) (zcode M_seen) 23 [(.iconst (-1), 1, (-1), 0, 0)] 24 = true := by decide +kernel
theorem M_seen_d8 : decode (zcode M_seen) 8 = .ok (.if_icmp .ge 15, 3) := by decide +kernel
theorem M_seen_d24 : decode (zcode M_seen) 24 = .ok (.ireturn, 1) := by decide +kernel
theorem M_isSeen_s0 : zseg (zown M_isSeen) (zcode M_isSeen) 0 [(.aload_n 0, 1, 0, 0, 0)] 1 = true := by decide +kernel
theorem M_isSeen_s4 : zseg (zown M_isSeen) (zcode M_isSeen) 4 [(.iload_n 1, 1, 0, 0, 0)] 5 = true := by decide +kernel
theorem M_isSeen_s8 : zseg (zown M_isSeen) (zcode M_isSeen) 8 [(.iconst 0, 1, 0, 0, 0)] 9 = true := by decide +kernel
theorem M_isSeen_s10 : zseg (zown M_isSeen) (zcode M_isSeen) 10 [(.aload_n 0, 1, 0, 0, 0), (.dup, 1, 0, 0, 0), (.getfield 174, 3, 0, 11, 24), (.iconst 1, 1, 1, 0, 0), (.iadd, 1, 0, 0, 0), (.putfield 174, 3, 0, 11, 24), (.iconst 1, 1, 1, 0, 0)] 21 = true := by decide +kernel
theorem M_isSeen_d1 : decode (zcode M_isSeen) 1 = .ok (.invokevirtual 225, 3) := by decide +kernel
theorem M_isSeen_d5 : decode (zcode M_isSeen) 5 = .ok (.if_icmp .eq 5, 3) := by decide +kernel
theorem M_isSeen_d9 : decode (zcode M_isSeen) 9 = .ok (.ireturn, 1) := by decide +kernel
theorem M_isSeen_d21 : decode (zcode M_isSeen) 21 = .ok (.ireturn, 1) := by decide +kernel
theorem M_one_s0 : zseg (zown M_one) (zcode M_one) 0 [(.iload_n 1, 1, 0, 0, 0)] 1 = true := by decide +kernel
theorem M_one_s4 : zseg (zown M_one) (zcode M_one) 4 [(.iconst 1, 1, 1, 0, 0), (.goto 4, 3, 0, 0, 0)] 9 = true := by decide +kernel
theorem M_one_s8 : zseg (zown M_one) (zcode M_one) 8 [(.iconst 0, 1, 0, 0, 0)] 9 = true := by decide +kernel
theorem M_one_d1 : decode (zcode M_one) 1 = .ok (.ifCond .eq 7, 3) := by decide +kernel
theorem M_one_d9 : decode (zcode M_one) 9 = .ok (.ireturn, 1) := by decide +kernel
theorem M_takesO_s0 : zseg (zown M_takesO) (zcode M_takesO) 0 [(.aload_n 0, 1, 0, 0, 0), (.getfield 38, 3, 0, 11, 17), (.aload_n 0, 1, 0, 0, 0), (.getfield 174, 3, 0, 11, 24), (.iaload, 1, 0, 0, 0), (.istore_n 1, 1, 0, 0, 0), (.aload_n 0, 1, 0, 0, 0), (.iload_n 1, 1, 0, 0, 0)] 12 = true := by decide +kernel
theorem M_takesO_s18 : zseg (zown M_takesO) (zcode M_takesO) 18 [(.iconst 0, 1, 0, 0, 0), (.istore_n 2, 1, 0, 0, 0)] 20 = true := by decide +kernel
theorem M_takesO_s20 : zseg (zown M_takesO) (zcode M_takesO) 20 [(.aload_n 0, 1, 0, 0, 0), (.aload_n 0, 1, 0, 0, 0)] 22 = true := by decide +kernel
theorem M_takesO_s31 : zseg (zown M_takesO) (zcode M_takesO) 31 [(.bipush 10, 2, 10, 0, 0), (.iload_n 2, 1, 0, 0, 0), (.imul, 1, 0, 0, 0), (.aload_n 0, 1, 0, 0, 0), (.getfield 38, 3, 0, 11, 17), (.aload_n 0, 1, 0, 0, 0), (.getfield 174, 3, 0, 11, 24), (.iaload, 1, 0, 0, 0), (.iadd, 1, 0, 0, 0), (.bipush 48, 2, 48, 0, 0), (.isub, 1, 0, 0, 0), (.istore_n 2, 1, 0, 0, 0), (.aload_n 0, 1, 0, 0, 0), (.dup, 1, 0, 0, 0), (.getfield 174, 3, 0, 11, 24), (.iconst 1, 1, 1, 0, 0), (.iadd, 1, 0, 0, 0), (.putfield 174, 3, 0, 11, 24), (.goto (-39), 3, 0, 0, 0)] 20 = true := by decide +kernel
theorem M_takesO_s62 : zseg (zown M_takesO) (zcode M_takesO) 62 [(.iload_n 2, 1, 0, 0, 0)] 63 = true := by decide +kernel
theorem M_takesO_s64 : zseg (zown M_takesO) (zcode M_takesO) 64 [(.aload_n 0, 1, 0, 0, 0), (.dup, 1, 0, 0, 0), (.getfield 174, 3, 0, 11, 24), (.iconst 1, 1, 1, 0, 0), (.iadd, 1, 0, 0, 0), (.putfield 174, 3, 0, 11, 24), (.iload_n 1, 1, 0, 0, 0), (.bipush 33, 2, 33, 0, 0)] 77 = true := by decide +kernel
theorem M_takesO_s80 : zseg (zown M_takesO) (zcode M_takesO) 80 [(.aload_n 0, 1, 0, 0, 0), (.aload_n 0, 1, 0, 0, 0)] 82 = true := by decide +kernel
theorem M_takesO_s88 : zseg (zown M_takesO) (zcode M_takesO) 88 [(.iconst 1, 1, 1, 0, 0), (.goto 4, 3, 0, 0, 0)] 93 = true := by decide +kernel
theorem M_takesO_s92 : zseg (zown M_takesO) (zcode M_takesO) 92 [(.iconst 0, 1, 0, 0, 0)] 93 = true := by decide +kernel
theorem M_takesO_s97 : zseg (zown M_takesO) (zcode M_takesO) 97 [(.iload_n 1, 1, 0, 0, 0), (.bipush 45, 2, 45, 0, 0)] 100 = true := by decide +kernel
theorem M_takesO_s103 : zseg (zown M_takesO) (zcode M_takesO) 103 [(.aload_n 0, 1, 0, 0, 0)] 104 = true := by decide +kernel
theorem M_takesO_s107 : zseg (zown M_takesO) (zcode M_takesO) 107 [(.ineg, 1, 0, 0, 0)] 108 = true := by decide +kernel
theorem M_takesO_s109 : zseg (zown M_takesO) (zcode M_takesO) 109 [(.iload_n 1, 1, 0, 0, 0), (.bipush 40, 2, 40, 0, 0)] 112 = true := by decide +kernel
theorem M_takesO_s115 : zseg (zown M_takesO) (zcode M_takesO) 115 [(.aload_n 0, 1, 0, 0, 0), (.getfield 53, 3, 0, 11, 27), (.iload_n 1, 1, 0, 0, 0), (.iaload, 1, 0, 0, 0)] 121 = true := by decide +kernel
theorem M_takesO_s122 : zseg (zown M_takesO) (zcode M_takesO) 122 [(.aload_n 0, 1, 0, 0, 0)] 123 = true := by decide +kernel
theorem M_takesO_s126 : zseg (zown M_takesO) (zcode M_takesO) 126 [(.istore_n 2, 1, 0, 0, 0), (.aload_n 0, 1, 0, 0, 0), (.dup, 1, 0, 0, 0), (.getfield 174, 3, 0, 11, 24), (.iconst 1, 1, 1, 0, 0), (.iadd, 1, 0, 0, 0), (.putfield 174, 3, 0, 11, 24), (.iload_n 2, 1, 0, 0, 0)] 138 = true := by decide +kernel
theorem M_takesO_d12 : decode (zcode M_takesO) 12 = .ok (.invokevirtual 185, 3) := by decide +kernel
theorem M_takesO_d15 : decode (zcode M_takesO) 15 = .ok (.ifCond .eq 49, 3) := by decide +kernel
theorem M_takesO_d22 : decode (zcode M_takesO) 22 = .ok (.invokevirtual 225, 3) := by decide +kernel
theorem M_takesO_d25 : decode (zcode M_takesO) 25 = .ok (.invokevirtual 185, 3) := by decide +kernel
theorem M_takesO_d28 : decode (zcode M_takesO) 28 = .ok (.ifCond .eq 34, 3) := by decide +kernel
theorem M_takesO_d63 : decode (zcode M_takesO) 63 = .ok (.ireturn, 1) := by decide +kernel
theorem M_takesO_d77 : decode (zcode M_takesO) 77 = .ok (.if_icmp .ne 20, 3) := by decide +kernel
theorem M_takesO_d82 : decode (zcode M_takesO) 82 = .ok (.invokevirtual 228, 3) := by decide +kernel
theorem M_takesO_d85 : decode (zcode M_takesO) 85 = .ok (.ifCond .ne 7, 3) := by decide +kernel
theorem M_takesO_d93 : decode (zcode M_takesO) 93 = .ok (.invokevirtual 167, 3) := by decide +kernel
theorem M_takesO_d96 : decode (zcode M_takesO) 96 = .ok (.ireturn, 1) := by decide +kernel
theorem M_takesO_d100 : decode (zcode M_takesO) 100 = .ok (.if_icmp .ne 9, 3) := by decide +kernel
theorem M_takesO_d104 : decode (zcode M_takesO) 104 = .ok (.invokevirtual 228, 3) := by decide +kernel
theorem M_takesO_d108 : decode (zcode M_takesO) 108 = .ok (.ireturn, 1) := by decide +kernel
theorem M_takesO_d112 : decode (zcode M_takesO) 112 = .ok (.if_icmp .eq 10, 3) := by decide +kernel
theorem M_takesO_d121 : decode (zcode M_takesO) 121 = .ok (.ireturn, 1) := by decide +kernel
theorem M_takesO_d123 : decode (zcode M_takesO) 123 = .ok (.invokevirtual 231, 3) := by decide +kernel
theorem M_takesO_d138 : decode (zcode M_takesO) 138 = .ok (.ireturn, 1) := by decide +kernel
theorem M_takesP_s0 : zseg (zown M_takesP) (zcode M_takesP) 0 [(.aload_n 0, 1, 0, 0, 0)] 1 = true := by decide +kernel
theorem M_takesP_s4 : zseg (zown M_takesP) (zcode M_takesP) 4 [(.istore_n 1, 1, 0, 0, 0)] 5 = true := by decide +kernel
theorem M_takesP_s5 : zseg (zown M_takesP) (zcode M_takesP) 5 [(.aload_n 0, 1, 0, 0, 0), (.bipush 42, 2, 42, 0, 0)] 8 = true := by decide +kernel
theorem M_takesP_s14 : zseg (zown M_takesP) (zcode M_takesP) 14 [(.iload_n 1, 1, 0, 0, 0), (.aload_n 0, 1, 0, 0, 0)] 16 = true := by decide +kernel
theorem M_takesP_s19 : zseg (zown M_takesP) (zcode M_takesP) 19 [(.imul, 1, 0, 0, 0), (.istore_n 1, 1, 0, 0, 0), (.goto (-16), 3, 0, 0, 0)] 5 = true := by decide +kernel
theorem M_takesP_s24 : zseg (zown M_takesP) (zcode M_takesP) 24 [(.aload_n 0, 1, 0, 0, 0), (.bipush 47, 2, 47, 0, 0)] 27 = true := by decide +kernel
theorem M_takesP_s33 : zseg (zown M_takesP) (zcode M_takesP) 33 [(.aload_n 0, 1, 0, 0, 0)] 34 = true := by decide +kernel
theorem M_takesP_s37 : zseg (zown M_takesP) (zcode M_takesP) 37 [(.istore_n 2, 1, 0, 0, 0), (.iload_n 2, 1, 0, 0, 0)] 39 = true := by decide +kernel
theorem M_takesP_s42 : zseg (zown M_takesP) (zcode M_takesP) 42 [(.iconst 0, 1, 0, 0, 0), (.goto 6, 3, 0, 0, 0), (.istore_n 1, 1, 0, 0, 0), (.goto (-45), 3, 0, 0, 0)] 5 = true := by decide +kernel
theorem M_takesP_s46 : zseg (zown M_takesP) (zcode M_takesP) 46 [(.iload_n 1, 1, 0, 0, 0), (.iload_n 2, 1, 0, 0, 0), (.idiv, 1, 0, 0, 0), (.istore_n 1, 1, 0, 0, 0), (.goto (-45), 3, 0, 0, 0)] 5 = true := by decide +kernel
theorem M_takesP_s53 : zseg (zown M_takesP) (zcode M_takesP) 53 [(.aload_n 0, 1, 0, 0, 0), (.bipush 37, 2, 37, 0, 0)] 56 = true := by decide +kernel
theorem M_takesP_s62 : zseg (zown M_takesP) (zcode M_takesP) 62 [(.aload_n 0, 1, 0, 0, 0)] 63 = true := by decide +kernel
theorem M_takesP_s66 : zseg (zown M_takesP) (zcode M_takesP) 66 [(.istore_n 2, 1, 0, 0, 0), (.iload_n 2, 1, 0, 0, 0)] 68 = true := by decide +kernel
theorem M_takesP_s71 : zseg (zown M_takesP) (zcode M_takesP) 71 [(.iconst 0, 1, 0, 0, 0), (.goto 6, 3, 0, 0, 0), (.istore_n 1, 1, 0, 0, 0), (.goto (-74), 3, 0, 0, 0)] 5 = true := by decide +kernel
theorem M_takesP_s75 : zseg (zown M_takesP) (zcode M_takesP) 75 [(.iload_n 1, 1, 0, 0, 0), (.iload_n 2, 1, 0, 0, 0), (.irem, 1, 0, 0, 0), (.istore_n 1, 1, 0, 0, 0), (.goto (-74), 3, 0, 0, 0)] 5 = true := by decide +kernel
theorem M_takesP_s82 : zseg (zown M_takesP) (zcode M_takesP) 82 [(.iload_n 1, 1, 0, 0, 0)] 83 = true := by decide +kernel
theorem M_takesP_d1 : decode (zcode M_takesP) 1 = .ok (.invokevirtual 228, 3) := by decide +kernel
theorem M_takesP_d8 : decode (zcode M_takesP) 8 = .ok (.invokevirtual 234, 3) := by decide +kernel
theorem M_takesP_d11 : decode (zcode M_takesP) 11 = .ok (.ifCond .eq 13, 3) := by decide +kernel
theorem M_takesP_d16 : decode (zcode M_takesP) 16 = .ok (.invokevirtual 228, 3) := by decide +kernel
theorem M_takesP_d27 : decode (zcode M_takesP) 27 = .ok (.invokevirtual 234, 3) := by decide +kernel
theorem M_takesP_d30 : decode (zcode M_takesP) 30 = .ok (.ifCond .eq 23, 3) := by decide +kernel
theorem M_takesP_d34 : decode (zcode M_takesP) 34 = .ok (.invokevirtual 228, 3) := by decide +kernel
theorem M_takesP_d39 : decode (zcode M_takesP) 39 = .ok (.ifCond .ne 7, 3) := by decide +kernel
theorem M_takesP_d56 : decode (zcode M_takesP) 56 = .ok (.invokevirtual 234, 3) := by decide +kernel
theorem M_takesP_d59 : decode (zcode M_takesP) 59 = .ok (.ifCond .eq 23, 3) := by decide +kernel
theorem M_takesP_d63 : decode (zcode M_takesP) 63 = .ok (.invokevirtual 228, 3) := by decide +kernel
theorem M_takesP_d68 : decode (zcode M_takesP) 68 = .ok (.ifCond .ne 7, 3) := by decide +kernel
theorem M_takesP_d83 : decode (zcode M_takesP) 83 = .ok (.ireturn, 1) := by decide +kernel
theorem M_takesS_s0 : zseg (zown M_takesS) (zcode M_takesS) 0 [(.aload_n 0, 1, 0, 0, 0)] 1 = true := by decide +kernel
theorem M_takesS_s4 : zseg (zown M_takesS) (zcode M_takesS) 4 [(.istore_n 1, 1, 0, 0, 0)] 5 = true := by decide +kernel
theorem M_takesS_s5 : zseg (zown M_takesS) (zcode M_takesS) 5 [(.aload_n 0, 1, 0, 0, 0), (.bipush 43, 2, 43, 0, 0)] 8 = true := by decide +kernel
theorem M_takesS_s14 : zseg (zown M_takesS) (zcode M_takesS) 14 [(.iload_n 1, 1, 0, 0, 0), (.aload_n 0, 1, 0, 0, 0)] 16 = true := by decide +kernel
theorem M_takesS_s19 : zseg (zown M_takesS) (zcode M_takesS) 19 [(.iadd, 1, 0, 0, 0), (.istore_n 1, 1, 0, 0, 0), (.goto (-16), 3, 0, 0, 0)] 5 = true := by decide +kernel
theorem M_takesS_s24 : zseg (zown M_takesS) (zcode M_takesS) 24 [(.aload_n 0, 1, 0, 0, 0), (.bipush 45, 2, 45, 0, 0)] 27 = true := by decide +kernel
theorem M_takesS_s33 : zseg (zown M_takesS) (zcode M_takesS) 33 [(.iload_n 1, 1, 0, 0, 0), (.aload_n 0, 1, 0, 0, 0)] 35 = true := by decide +kernel
theorem M_takesS_s38 : zseg (zown M_takesS) (zcode M_takesS) 38 [(.isub, 1, 0, 0, 0), (.istore_n 1, 1, 0, 0, 0), (.goto (-35), 3, 0, 0, 0)] 5 = true := by decide +kernel
theorem M_takesS_s43 : zseg (zown M_takesS) (zcode M_takesS) 43 [(.iload_n 1, 1, 0, 0, 0)] 44 = true := by decide +kernel
theorem M_takesS_d1 : decode (zcode M_takesS) 1 = .ok (.invokevirtual 237, 3) := by decide +kernel
theorem M_takesS_d8 : decode (zcode M_takesS) 8 = .ok (.invokevirtual 234, 3) := by decide +kernel
theorem M_takesS_d11 : decode (zcode M_takesS) 11 = .ok (.ifCond .eq 13, 3) := by decide +kernel
theorem M_takesS_d16 : decode (zcode M_takesS) 16 = .ok (.invokevirtual 237, 3) := by decide +kernel
theorem M_takesS_d27 : decode (zcode M_takesS) 27 = .ok (.invokevirtual 234, 3) := by decide +kernel
theorem M_takesS_d30 : decode (zcode M_takesS) 30 = .ok (.ifCond .eq 13, 3) := by decide +kernel
theorem M_takesS_d35 : decode (zcode M_takesS) 35 = .ok (.invokevirtual 237, 3) := by decide +kernel
theorem M_takesS_d44 : decode (zcode M_takesS) 44 = .ok (.ireturn, 1) := by decide +kernel
theorem M_takesB_s0 : zseg (zown M_takesB) (zcode M_takesB) 0 [(.aload_n 0, 1, 0, 0, 0)] 1 = true := by decide +kernel
theorem M_takesB_s4 : zseg (zown M_takesB) (zcode M_takesB) 4 [(.istore_n 1, 1, 0, 0, 0), (.aload_n 0, 1, 0, 0, 0), (.bipush 60, 2, 60, 0, 0)] 8 = true := by decide +kernel
theorem M_takesB_s14 : zseg (zown M_takesB) (zcode M_takesB) 14 [(.aload_n 0, 1, 0, 0, 0), (.iload_n 1, 1, 0, 0, 0), (.aload_n 0, 1, 0, 0, 0)] 17 = true := by decide +kernel
theorem M_takesB_s23 : zseg (zown M_takesB) (zcode M_takesB) 23 [(.iconst 1, 1, 1, 0, 0), (.goto 4, 3, 0, 0, 0)] 28 = true := by decide +kernel
theorem M_takesB_s27 : zseg (zown M_takesB) (zcode M_takesB) 27 [(.iconst 0, 1, 0, 0, 0)] 28 = true := by decide +kernel
theorem M_takesB_s32 : zseg (zown M_takesB) (zcode M_takesB) 32 [(.aload_n 0, 1, 0, 0, 0), (.bipush 61, 2, 61, 0, 0)] 35 = true := by decide +kernel
theorem M_takesB_s41 : zseg (zown M_takesB) (zcode M_takesB) 41 [(.aload_n 0, 1, 0, 0, 0), (.iload_n 1, 1, 0, 0, 0), (.aload_n 0, 1, 0, 0, 0)] 44 = true := by decide +kernel
theorem M_takesB_s50 : zseg (zown M_takesB) (zcode M_takesB) 50 [(.iconst 1, 1, 1, 0, 0), (.goto 4, 3, 0, 0, 0)] 55 = true := by decide +kernel
theorem M_takesB_s54 : zseg (zown M_takesB) (zcode M_takesB) 54 [(.iconst 0, 1, 0, 0, 0)] 55 = true := by decide +kernel
theorem M_takesB_s59 : zseg (zown M_takesB) (zcode M_takesB) 59 [(.aload_n 0, 1, 0, 0, 0), (.bipush 62, 2, 62, 0, 0)] 62 = true := by decide +kernel
theorem M_takesB_s68 : zseg (zown M_takesB) (zcode M_takesB) 68 [(.aload_n 0, 1, 0, 0, 0), (.iload_n 1, 1, 0, 0, 0), (.aload_n 0, 1, 0, 0, 0)] 71 = true := by decide +kernel
theorem M_takesB_s77 : zseg (zown M_takesB) (zcode M_takesB) 77 [(.iconst 1, 1, 1, 0, 0), (.goto 4, 3, 0, 0, 0)] 82 = true := by decide +kernel
theorem M_takesB_s81 : zseg (zown M_takesB) (zcode M_takesB) 81 [(.iconst 0, 1, 0, 0, 0)] 82 = true := by decide +kernel
theorem M_takesB_s86 : zseg (zown M_takesB) (zcode M_takesB) 86 [(.iload_n 1, 1, 0, 0, 0)] 87 = true := by decide +kernel
theorem M_takesB_d1 : decode (zcode M_takesB) 1 = .ok (.invokevirtual 240, 3) := by decide +kernel
theorem M_takesB_d8 : decode (zcode M_takesB) 8 = .ok (.invokevirtual 234, 3) := by decide +kernel
theorem M_takesB_d11 : decode (zcode M_takesB) 11 = .ok (.ifCond .eq 21, 3) := by decide +kernel
theorem M_takesB_d17 : decode (zcode M_takesB) 17 = .ok (.invokevirtual 240, 3) := by decide +kernel
theorem M_takesB_d20 : decode (zcode M_takesB) 20 = .ok (.if_icmp .ge 7, 3) := by decide +kernel
theorem M_takesB_d28 : decode (zcode M_takesB) 28 = .ok (.invokevirtual 167, 3) := by decide +kernel
theorem M_takesB_d31 : decode (zcode M_takesB) 31 = .ok (.ireturn, 1) := by decide +kernel
theorem M_takesB_d35 : decode (zcode M_takesB) 35 = .ok (.invokevirtual 234, 3) := by decide +kernel
theorem M_takesB_d38 : decode (zcode M_takesB) 38 = .ok (.ifCond .eq 21, 3) := by decide +kernel
theorem M_takesB_d44 : decode (zcode M_takesB) 44 = .ok (.invokevirtual 240, 3) := by decide +kernel
theorem M_takesB_d47 : decode (zcode M_takesB) 47 = .ok (.if_icmp .ne 7, 3) := by decide +kernel
theorem M_takesB_d55 : decode (zcode M_takesB) 55 = .ok (.invokevirtual 167, 3) := by decide +kernel
theorem M_takesB_d58 : decode (zcode M_takesB) 58 = .ok (.ireturn, 1) := by decide +kernel
theorem M_takesB_d62 : decode (zcode M_takesB) 62 = .ok (.invokevirtual 234, 3) := by decide +kernel
theorem M_takesB_d65 : decode (zcode M_takesB) 65 = .ok (.ifCond .eq 21, 3) := by decide +kernel
theorem M_takesB_d71 : decode (zcode M_takesB) 71 = .ok (.invokevirtual 240, 3) := by decide +kernel
theorem M_takesB_d74 : decode (zcode M_takesB) 74 = .ok (.if_icmp .le 7, 3) := by decide +kernel
theorem M_takesB_d82 : decode (zcode M_takesB) 82 = .ok (.invokevirtual 167, 3) := by decide +kernel
theorem M_takesB_d85 : decode (zcode M_takesB) 85 = .ok (.ireturn, 1) := by decide +kernel
theorem M_takesB_d87 : decode (zcode M_takesB) 87 = .ok (.ireturn, 1) := by decide +kernel
theorem M_takesA_s0 : zseg (zown M_takesA) (zcode M_takesA) 0 [(.aload_n 0, 1, 0, 0, 0)] 1 = true := by decide +kernel
theorem M_takesA_s4 : zseg (zown M_takesA) (zcode M_takesA) 4 [(.istore_n 1, 1, 0, 0, 0)] 5 = true := by decide +kernel
theorem M_takesA_s5 : zseg (zown M_takesA) (zcode M_takesA) 5 [(.aload_n 0, 1, 0, 0, 0), (.bipush 38, 2, 38, 0, 0)] 8 = true := by decide +kernel
theorem M_takesA_s14 : zseg (zown M_takesA) (zcode M_takesA) 14 [(.aload_n 0, 1, 0, 0, 0)] 15 = true := by decide +kernel
theorem M_takesA_s18 : zseg (zown M_takesA) (zcode M_takesA) 18 [(.istore_n 2, 1, 0, 0, 0), (.aload_n 0, 1, 0, 0, 0), (.iload_n 1, 1, 0, 0, 0)] 21 = true := by decide +kernel
theorem M_takesA_s24 : zseg (zown M_takesA) (zcode M_takesA) 24 [(.iload_n 2, 1, 0, 0, 0)] 25 = true := by decide +kernel
theorem M_takesA_s28 : zseg (zown M_takesA) (zcode M_takesA) 28 [(.iconst 1, 1, 1, 0, 0), (.goto 4, 3, 0, 0, 0)] 33 = true := by decide +kernel
theorem M_takesA_s32 : zseg (zown M_takesA) (zcode M_takesA) 32 [(.iconst 0, 1, 0, 0, 0)] 33 = true := by decide +kernel
theorem M_takesA_s36 : zseg (zown M_takesA) (zcode M_takesA) 36 [(.istore_n 1, 1, 0, 0, 0), (.goto (-32), 3, 0, 0, 0)] 5 = true := by decide +kernel
theorem M_takesA_s40 : zseg (zown M_takesA) (zcode M_takesA) 40 [(.iload_n 1, 1, 0, 0, 0)] 41 = true := by decide +kernel
theorem M_takesA_d1 : decode (zcode M_takesA) 1 = .ok (.invokevirtual 243, 3) := by decide +kernel
theorem M_takesA_d8 : decode (zcode M_takesA) 8 = .ok (.invokevirtual 234, 3) := by decide +kernel
theorem M_takesA_d11 : decode (zcode M_takesA) 11 = .ok (.ifCond .eq 29, 3) := by decide +kernel
theorem M_takesA_d15 : decode (zcode M_takesA) 15 = .ok (.invokevirtual 243, 3) := by decide +kernel
theorem M_takesA_d21 : decode (zcode M_takesA) 21 = .ok (.ifCond .eq 11, 3) := by decide +kernel
theorem M_takesA_d25 : decode (zcode M_takesA) 25 = .ok (.ifCond .eq 7, 3) := by decide +kernel
theorem M_takesA_d33 : decode (zcode M_takesA) 33 = .ok (.invokevirtual 167, 3) := by decide +kernel
theorem M_takesA_d41 : decode (zcode M_takesA) 41 = .ok (.ireturn, 1) := by decide +kernel
theorem M_takesE_s0 : zseg (zown M_takesE) (zcode M_takesE) 0 [(.aload_n 0, 1, 0, 0, 0)] 1 = true := by decide +kernel
theorem M_takesE_s4 : zseg (zown M_takesE) (zcode M_takesE) 4 [(.istore_n 1, 1, 0, 0, 0)] 5 = true := by decide +kernel
theorem M_takesE_s5 : zseg (zown M_takesE) (zcode M_takesE) 5 [(.aload_n 0, 1, 0, 0, 0), (.bipush 124, 2, 124, 0, 0)] 8 = true := by decide +kernel
theorem M_takesE_s14 : zseg (zown M_takesE) (zcode M_takesE) 14 [(.aload_n 0, 1, 0, 0, 0)] 15 = true := by decide +kernel
theorem M_takesE_s18 : zseg (zown M_takesE) (zcode M_takesE) 18 [(.istore_n 2, 1, 0, 0, 0), (.aload_n 0, 1, 0, 0, 0), (.iload_n 1, 1, 0, 0, 0)] 21 = true := by decide +kernel
theorem M_takesE_s24 : zseg (zown M_takesE) (zcode M_takesE) 24 [(.iload_n 2, 1, 0, 0, 0)] 25 = true := by decide +kernel
theorem M_takesE_s28 : zseg (zown M_takesE) (zcode M_takesE) 28 [(.iconst 1, 1, 1, 0, 0), (.goto 4, 3, 0, 0, 0)] 33 = true := by decide +kernel
theorem M_takesE_s32 : zseg (zown M_takesE) (zcode M_takesE) 32 [(.iconst 0, 1, 0, 0, 0)] 33 = true := by decide +kernel
theorem M_takesE_s36 : zseg (zown M_takesE) (zcode M_takesE) 36 [(.istore_n 1, 1, 0, 0, 0), (.goto (-32), 3, 0, 0, 0)] 5 = true := by decide +kernel
theorem M_takesE_s40 : zseg (zown M_takesE) (zcode M_takesE) 40 [(.iload_n 1, 1, 0, 0, 0)] 41 = true := by decide +kernel
theorem M_takesE_d1 : decode (zcode M_takesE) 1 = .ok (.invokevirtual 246, 3) := by decide +kernel
theorem M_takesE_d8 : decode (zcode M_takesE) 8 = .ok (.invokevirtual 234, 3) := by decide +kernel
theorem M_takesE_d11 : decode (zcode M_takesE) 11 = .ok (.ifCond .eq 29, 3) := by decide +kernel
theorem M_takesE_d15 : decode (zcode M_takesE) 15 = .ok (.invokevirtual 246, 3) := by decide +kernel
theorem M_takesE_d21 : decode (zcode M_takesE) 21 = .ok (.ifCond .ne 7, 3) := by decide +kernel
theorem M_takesE_d25 : decode (zcode M_takesE) 25 = .ok (.ifCond .eq 7, 3) := by decide +kernel
theorem M_takesE_d33 : decode (zcode M_takesE) 33 = .ok (.invokevirtual 167, 3) := by decide +kernel
theorem M_takesE_d41 : decode (zcode M_takesE) 41 = .ok (.ireturn, 1) := by decide +kernel
theorem M_given_s0 : zseg (zown M_given) (zcode M_given) 0 [(.aload_n 0, 1, 0, 0, 0), (.iconst 0, 1, 0, 0, 0), (.putfield 174, 3, 0, 11, 24)] 5 = true := by decide +kernel
theorem M_given_s5 : zseg (zown M_given) (zcode M_given) 5 [(.aload_n 0, 1, 0, 0, 0), (.getfield 174, 3, 0, 11, 24), (.aload_n 0, 1, 0, 0, 0), (.getfield 219, 3, 0, 11, 5)] 13 = true := by decide +kernel
theorem M_given_s16 : zseg (zown M_given) (zcode M_given) 16 [(.aload_n 0, 1, 0, 0, 0)] 17 = true := by decide +kernel
theorem M_given_s20 : zseg (zown M_given) (zcode M_given) 20 [(.istore_n 1, 1, 0, 0, 0), (.aload_n 0, 1, 0, 0, 0), (.bipush 63, 2, 63, 0, 0)] 24 = true := by decide +kernel
theorem M_given_s30 : zseg (zown M_given) (zcode M_given) 30 [(.iload_n 1, 1, 0, 0, 0)] 31 = true := by decide +kernel
theorem M_given_s32 : zseg (zown M_given) (zcode M_given) 32 [(.aload_n 0, 1, 0, 0, 0)] 33 = true := by decide +kernel
theorem M_given_s36 : zseg (zown M_given) (zcode M_given) 36 [(.istore_n 2, 1, 0, 0, 0), (.iload_n 1, 1, 0, 0, 0)] 38 = true := by decide +kernel
theorem M_given_s41 : zseg (zown M_given) (zcode M_given) 41 [(.iload_n 2, 1, 0, 0, 0)] 42 = true := by decide +kernel
theorem M_given_s43 : zseg (zown M_given) (zcode M_given) 43 [(.aload_n 0, 1, 0, 0, 0), (.dup, 1, 0, 0, 0), (.getfield 174, 3, 0, 11, 24), (.iconst 1, 1, 1, 0, 0), (.iadd, 1, 0, 0, 0), (.putfield 174, 3, 0, 11, 24), (.goto (-48), 3, 0, 0, 0)] 5 = true := by decide +kernel
theorem M_given_s56 : zseg (zown M_given) (zcode M_given) 56 [(.iconst 0, 1, 0, 0, 0)] 57 = true := by decide +kernel
theorem M_given_d13 : decode (zcode M_given) 13 = .ok (.if_icmp .ge 43, 3) := by decide +kernel
theorem M_given_d17 : decode (zcode M_given) 17 = .ok (.invokevirtual 231, 3) := by decide +kernel
theorem M_given_d24 : decode (zcode M_given) 24 = .ok (.invokevirtual 234, 3) := by decide +kernel
theorem M_given_d27 : decode (zcode M_given) 27 = .ok (.ifCond .ne 5, 3) := by decide +kernel
theorem M_given_d31 : decode (zcode M_given) 31 = .ok (.ireturn, 1) := by decide +kernel
theorem M_given_d33 : decode (zcode M_given) 33 = .ok (.invokevirtual 231, 3) := by decide +kernel
theorem M_given_d38 : decode (zcode M_given) 38 = .ok (.ifCond .eq 5, 3) := by decide +kernel
theorem M_given_d42 : decode (zcode M_given) 42 = .ok (.ireturn, 1) := by decide +kernel
theorem M_given_d57 : decode (zcode M_given) 57 = .ok (.ireturn, 1) := by decide +kernel
theorem M_isKept_s0 : zseg (zown M_isKept) (zcode M_isKept) 0 [(.iload_n 2, 1, 0, 0, 0), (.aload_n 0, 1, 0, 0, 0), (.getfield 29, 3, 0, 11, 14), (.iload_n 1, 1, 0, 0, 0), (.iaload, 1, 0, 0, 0)] 7 = true := by decide +kernel
theorem M_isKept_s10 : zseg (zown M_isKept) (zcode M_isKept) 10 [(.aload_n 0, 1, 0, 0, 0), (.getfield 29, 3, 0, 11, 14), (.iload_n 1, 1, 0, 0, 0), (.iaload, 1, 0, 0, 0), (.aload_n 0, 1, 0, 0, 0), (.getfield 32, 3, 0, 11, 15), (.iload_n 1, 1, 0, 0, 0), (.iaload, 1, 0, 0, 0)] 22 = true := by decide +kernel
theorem M_isKept_s25 : zseg (zown M_isKept) (zcode M_isKept) 25 [(.aload_n 0, 1, 0, 0, 0), (.getfield 32, 3, 0, 11, 15), (.iload_n 1, 1, 0, 0, 0), (.iaload, 1, 0, 0, 0), (.iload_n 2, 1, 0, 0, 0)] 32 = true := by decide +kernel
theorem M_isKept_s35 : zseg (zown M_isKept) (zcode M_isKept) 35 [(.iconst 1, 1, 1, 0, 0), (.goto 4, 3, 0, 0, 0)] 40 = true := by decide +kernel
theorem M_isKept_s39 : zseg (zown M_isKept) (zcode M_isKept) 39 [(.iconst 0, 1, 0, 0, 0)] 40 = true := by decide +kernel
theorem M_isKept_d7 : decode (zcode M_isKept) 7 = .ok (.if_icmp .lt 28, 3) := by decide +kernel
theorem M_isKept_d22 : decode (zcode M_isKept) 22 = .ok (.if_icmp .ge 17, 3) := by decide +kernel
theorem M_isKept_d32 : decode (zcode M_isKept) 32 = .ok (.if_icmp .gt 7, 3) := by decide +kernel
theorem M_isKept_d40 : decode (zcode M_isKept) 40 = .ok (.ireturn, 1) := by decide +kernel
theorem M_gives_s0 : zseg (zown M_gives) (zcode M_gives) 0 [(.aload_n 0, 1, 0, 0, 0), (.getfield 222, 3, 0, 11, 8)] 4 = true := by decide +kernel
theorem M_gives_s7 : zseg (zown M_gives) (zcode M_gives) 7 [(.iload_n 3, 1, 0, 0, 0)] 8 = true := by decide +kernel
theorem M_gives_s11 : zseg (zown M_gives) (zcode M_gives) 11 [(.iconst 0, 1, 0, 0, 0), (.goto 10, 3, 0, 0, 0)] 22 = true := by decide +kernel
theorem M_gives_s15 : zseg (zown M_gives) (zcode M_gives) 15 [(.aload_n 0, 1, 0, 0, 0), (.getfield 23, 3, 0, 11, 12), (.iload_n 1, 1, 0, 0, 0), (.iaload, 1, 0, 0, 0), (.ineg, 1, 0, 0, 0)] 22 = true := by decide +kernel
theorem M_gives_s23 : zseg (zown M_gives) (zcode M_gives) 23 [(.aload_n 0, 1, 0, 0, 0), (.getfield 53, 3, 0, 11, 27), (.bipush 119, 2, 119, 0, 0), (.aload_n 0, 1, 0, 0, 0), (.getfield 23, 3, 0, 11, 12), (.iload_n 1, 1, 0, 0, 0), (.iaload, 1, 0, 0, 0), (.iastore, 1, 0, 0, 0), (.aload_n 0, 1, 0, 0, 0), (.getfield 53, 3, 0, 11, 27), (.bipush 107, 2, 107, 0, 0), (.aload_n 0, 1, 0, 0, 0), (.iload_n 3, 1, 0, 0, 0)] 44 = true := by decide +kernel
theorem M_gives_s47 : zseg (zown M_gives) (zcode M_gives) 47 [(.iastore, 1, 0, 0, 0), (.aload_n 0, 1, 0, 0, 0), (.getfield 53, 3, 0, 11, 27), (.bipush 100, 2, 100, 0, 0), (.iload_n 3, 1, 0, 0, 0)] 55 = true := by decide +kernel
theorem M_gives_s58 : zseg (zown M_gives) (zcode M_gives) 58 [(.iconst 0, 1, 0, 0, 0), (.goto 5, 3, 0, 0, 0), (.iastore, 1, 0, 0, 0), (.aload_n 0, 1, 0, 0, 0), (.getfield 53, 3, 0, 11, 27), (.bipush 104, 2, 104, 0, 0), (.iload 5, 2, 0, 0, 0), (.iastore, 1, 0, 0, 0), (.aload_n 0, 1, 0, 0, 0), (.getfield 53, 3, 0, 11, 27), (.bipush 98, 2, 98, 0, 0), (.iload_n 2, 1, 0, 0, 0), (.iastore, 1, 0, 0, 0), (.aload_n 0, 1, 0, 0, 0), (.getfield 53, 3, 0, 11, 27), (.bipush 112, 2, 112, 0, 0), (.aload_n 0, 1, 0, 0, 0), (.getfield 26, 3, 0, 11, 13), (.iload_n 1, 1, 0, 0, 0), (.iaload, 1, 0, 0, 0), (.iastore, 1, 0, 0, 0), (.aload_n 0, 1, 0, 0, 0)] 96 = true := by decide +kernel
theorem M_gives_s62 : zseg (zown M_gives) (zcode M_gives) 62 [(.iload 4, 2, 0, 0, 0), (.iastore, 1, 0, 0, 0), (.aload_n 0, 1, 0, 0, 0), (.getfield 53, 3, 0, 11, 27), (.bipush 104, 2, 104, 0, 0), (.iload 5, 2, 0, 0, 0), (.iastore, 1, 0, 0, 0), (.aload_n 0, 1, 0, 0, 0), (.getfield 53, 3, 0, 11, 27), (.bipush 98, 2, 98, 0, 0), (.iload_n 2, 1, 0, 0, 0), (.iastore, 1, 0, 0, 0), (.aload_n 0, 1, 0, 0, 0), (.getfield 53, 3, 0, 11, 27), (.bipush 112, 2, 112, 0, 0), (.aload_n 0, 1, 0, 0, 0), (.getfield 26, 3, 0, 11, 13), (.iload_n 1, 1, 0, 0, 0), (.iaload, 1, 0, 0, 0), (.iastore, 1, 0, 0, 0), (.aload_n 0, 1, 0, 0, 0)] 96 = true := by decide +kernel
theorem M_gives_s99 : zseg (zown M_gives) (zcode M_gives) 99 [(.istore 6, 2, 0, 0, 0), (.iload 6, 2, 0, 0, 0), (.bipush (-9), 2, (-9), 0, 0)] 105 = true := by decide +kernel
theorem M_gives_s108 : zseg (zown M_gives) (zcode M_gives) 108 [(.bipush (-9), 2, (-9), 0, 0), (.goto 17, 3, 0, 0, 0)] 127 = true := by decide +kernel
theorem M_gives_s113 : zseg (zown M_gives) (zcode M_gives) 113 [(.iload 6, 2, 0, 0, 0), (.bipush 9, 2, 9, 0, 0)] 117 = true := by decide +kernel
theorem M_gives_s120 : zseg (zown M_gives) (zcode M_gives) 120 [(.bipush 9, 2, 9, 0, 0), (.goto 5, 3, 0, 0, 0)] 127 = true := by decide +kernel
theorem M_gives_s125 : zseg (zown M_gives) (zcode M_gives) 125 [(.iload 6, 2, 0, 0, 0)] 127 = true := by decide +kernel
theorem M_gives_d4 : decode (zcode M_gives) 4 = .ok (.ifCond .ne 19, 3) := by decide +kernel
theorem M_gives_d8 : decode (zcode M_gives) 8 = .ok (.ifCond .eq 7, 3) := by decide +kernel
theorem M_gives_d22 : decode (zcode M_gives) 22 = .ok (.ireturn, 1) := by decide +kernel
theorem M_gives_d44 : decode (zcode M_gives) 44 = .ok (.invokevirtual 167, 3) := by decide +kernel
theorem M_gives_d55 : decode (zcode M_gives) 55 = .ok (.ifCond .eq 7, 3) := by decide +kernel
theorem M_gives_d96 : decode (zcode M_gives) 96 = .ok (.invokevirtual 249, 3) := by decide +kernel
theorem M_gives_d105 : decode (zcode M_gives) 105 = .ok (.if_icmp .ge 8, 3) := by decide +kernel
theorem M_gives_d127 : decode (zcode M_gives) 127 = .ok (.ireturn, 1) := by decide +kernel
theorem M_gives_d117 : decode (zcode M_gives) 117 = .ok (.if_icmp .le 8, 3) := by decide +kernel
theorem M_putsOn_s0 : zseg (zown M_putsOn) (zcode M_putsOn) 0 [(.aload_n 0, 1, 0, 0, 0), (.iload_n 1, 1, 0, 0, 0), (.iload_n 3, 1, 0, 0, 0)] 3 = true := by decide +kernel
theorem M_putsOn_s6 : zseg (zown M_putsOn) (zcode M_putsOn) 6 [(.istore 5, 2, 0, 0, 0), (.aload_n 0, 1, 0, 0, 0), (.iload_n 1, 1, 0, 0, 0), (.iload_n 2, 1, 0, 0, 0), (.iload 5, 2, 0, 0, 0), (.iload_n 3, 1, 0, 0, 0), (.aload_n 0, 1, 0, 0, 0), (.getfield 29, 3, 0, 11, 14), (.iload_n 1, 1, 0, 0, 0), (.iaload, 1, 0, 0, 0), (.isub, 1, 0, 0, 0), (.iload 4, 2, 0, 0, 0)] 23 = true := by decide +kernel
theorem M_putsOn_d3 : decode (zcode M_putsOn) 3 = .ok (.invokevirtual 164, 3) := by decide +kernel
theorem M_putsOn_d23 : decode (zcode M_putsOn) 23 = .ok (.invokevirtual 252, 3) := by decide +kernel
theorem M_putsOn_d26 : decode (zcode M_putsOn) 26 = .ok (.ireturn, 1) := by decide +kernel
theorem M_isTime_s0 : zseg (zown M_isTime) (zcode M_isTime) 0 [(.iload_n 1, 1, 0, 0, 0)] 1 = true := by decide +kernel
theorem M_isTime_s4 : zseg (zown M_isTime) (zcode M_isTime) 4 [(.iload_n 1, 1, 0, 0, 0), (.bipush 100, 2, 100, 0, 0), (.idiv, 1, 0, 0, 0), (.sipush 998, 3, 998, 0, 0)] 11 = true := by decide +kernel
theorem M_isTime_s14 : zseg (zown M_isTime) (zcode M_isTime) 14 [(.iload_n 1, 1, 0, 0, 0), (.bipush 100, 2, 100, 0, 0), (.irem, 1, 0, 0, 0), (.bipush 24, 2, 24, 0, 0)] 20 = true := by decide +kernel
theorem M_isTime_s23 : zseg (zown M_isTime) (zcode M_isTime) 23 [(.iconst 1, 1, 1, 0, 0), (.goto 4, 3, 0, 0, 0)] 28 = true := by decide +kernel
theorem M_isTime_s27 : zseg (zown M_isTime) (zcode M_isTime) 27 [(.iconst 0, 1, 0, 0, 0)] 28 = true := by decide +kernel
theorem M_isTime_d1 : decode (zcode M_isTime) 1 = .ok (.ifCond .lt 26, 3) := by decide +kernel
theorem M_isTime_d11 : decode (zcode M_isTime) 11 = .ok (.if_icmp .gt 16, 3) := by decide +kernel
theorem M_isTime_d20 : decode (zcode M_isTime) 20 = .ok (.if_icmp .ge 7, 3) := by decide +kernel
theorem M_isTime_d28 : decode (zcode M_isTime) 28 = .ok (.ireturn, 1) := by decide +kernel
theorem M_puts_s0 : zseg (zown M_puts) (zcode M_puts) 0 [(.aload_n 0, 1, 0, 0, 0), (.iload_n 1, 1, 0, 0, 0)] 2 = true := by decide +kernel
theorem M_puts_s8 : zseg (zown M_puts) (zcode M_puts) 8 [(.aload_n 0, 1, 0, 0, 0), (.iload_n 2, 1, 0, 0, 0)] 10 = true := by decide +kernel
theorem M_puts_s16 : zseg (zown M_puts) (zcode M_puts) 16 [(.aload_n 0, 1, 0, 0, 0), (.iload_n 1, 1, 0, 0, 0), (.aload_n 0, 1, 0, 0, 0), (.getfield 20, 3, 0, 11, 11), (.iload_n 1, 1, 0, 0, 0), (.iaload, 1, 0, 0, 0), (.iload_n 2, 1, 0, 0, 0), (.bipush 100, 2, 100, 0, 0), (.idiv, 1, 0, 0, 0), (.iload_n 2, 1, 0, 0, 0), (.bipush 100, 2, 100, 0, 0), (.irem, 1, 0, 0, 0)] 32 = true := by decide +kernel
theorem M_puts_s35 : zseg (zown M_puts) (zcode M_puts) 35 [(.goto 6, 3, 0, 0, 0)] 41 = true := by decide +kernel
theorem M_puts_s38 : zseg (zown M_puts) (zcode M_puts) 38 [(.ldc_w 263, 3, (-2000000000), 0, 0)] 41 = true := by decide +kernel
theorem M_puts_d2 : decode (zcode M_puts) 2 = .ok (.invokevirtual 131, 3) := by decide +kernel
theorem M_puts_d5 : decode (zcode M_puts) 5 = .ok (.ifCond .eq 33, 3) := by decide +kernel
theorem M_puts_d10 : decode (zcode M_puts) 10 = .ok (.invokevirtual 256, 3) := by decide +kernel
theorem M_puts_d13 : decode (zcode M_puts) 13 = .ok (.ifCond .eq 25, 3) := by decide +kernel
theorem M_puts_d32 : decode (zcode M_puts) 32 = .ok (.invokevirtual 259, 3) := by decide +kernel
theorem M_puts_d41 : decode (zcode M_puts) 41 = .ok (.ireturn, 1) := by decide +kernel
theorem M_offOf_s0 : zseg (zown M_offOf) (zcode M_offOf) 0 [(.iconst 0, 1, 0, 0, 0), (.istore 4, 2, 0, 0, 0), (.iconst 0, 1, 0, 0, 0), (.istore 5, 2, 0, 0, 0)] 6 = true := by decide +kernel
theorem M_offOf_s6 : zseg (zown M_offOf) (zcode M_offOf) 6 [(.iload 5, 2, 0, 0, 0), (.aload_n 0, 1, 0, 0, 0), (.getfield 109, 3, 0, 11, 1)] 12 = true := by decide +kernel
theorem M_offOf_s15 : zseg (zown M_offOf) (zcode M_offOf) 15 [(.aload_n 0, 1, 0, 0, 0), (.getfield 20, 3, 0, 11, 11), (.iload 5, 2, 0, 0, 0), (.iaload, 1, 0, 0, 0), (.iload_n 1, 1, 0, 0, 0)] 23 = true := by decide +kernel
theorem M_offOf_s26 : zseg (zown M_offOf) (zcode M_offOf) 26 [(.iload 4, 2, 0, 0, 0), (.aload_n 0, 1, 0, 0, 0), (.iload 5, 2, 0, 0, 0), (.iload_n 1, 1, 0, 0, 0), (.iload_n 2, 1, 0, 0, 0), (.iload_n 3, 1, 0, 0, 0)] 34 = true := by decide +kernel
theorem M_offOf_s37 : zseg (zown M_offOf) (zcode M_offOf) 37 [(.iadd, 1, 0, 0, 0), (.istore 4, 2, 0, 0, 0), (.iinc 5 1, 3, 1, 0, 0), (.goto (-37), 3, 0, 0, 0)] 6 = true := by decide +kernel
theorem M_offOf_s40 : zseg (zown M_offOf) (zcode M_offOf) 40 [(.iinc 5 1, 3, 1, 0, 0), (.goto (-37), 3, 0, 0, 0)] 6 = true := by decide +kernel
theorem M_offOf_s46 : zseg (zown M_offOf) (zcode M_offOf) 46 [(.iload 4, 2, 0, 0, 0)] 48 = true := by decide +kernel
theorem M_offOf_d12 : decode (zcode M_offOf) 12 = .ok (.if_icmp .ge 34, 3) := by decide +kernel
theorem M_offOf_d23 : decode (zcode M_offOf) 23 = .ok (.if_icmp .ne 17, 3) := by decide +kernel
theorem M_offOf_d34 : decode (zcode M_offOf) 34 = .ok (.invokevirtual 259, 3) := by decide +kernel
theorem M_offOf_d48 : decode (zcode M_offOf) 48 = .ok (.ireturn, 1) := by decide +kernel
theorem M_pitch_s0 : zseg (zown M_pitch) (zcode M_pitch) 0 [(.aload_n 0, 1, 0, 0, 0), (.iload_n 1, 1, 0, 0, 0)] 2 = true := by decide +kernel
theorem M_pitch_s8 : zseg (zown M_pitch) (zcode M_pitch) 8 [(.aload_n 0, 1, 0, 0, 0), (.iload_n 2, 1, 0, 0, 0)] 10 = true := by decide +kernel
theorem M_pitch_s16 : zseg (zown M_pitch) (zcode M_pitch) 16 [(.aload_n 0, 1, 0, 0, 0), (.iload_n 3, 1, 0, 0, 0), (.iconst 0, 1, 0, 0, 0), (.iconst 1, 1, 1, 0, 0)] 20 = true := by decide +kernel
theorem M_pitch_s26 : zseg (zown M_pitch) (zcode M_pitch) 26 [(.ldc_w 263, 3, (-2000000000), 0, 0)] 29 = true := by decide +kernel
theorem M_pitch_s30 : zseg (zown M_pitch) (zcode M_pitch) 30 [(.aload_n 0, 1, 0, 0, 0), (.iload_n 1, 1, 0, 0, 0), (.iload_n 2, 1, 0, 0, 0), (.bipush 100, 2, 100, 0, 0), (.idiv, 1, 0, 0, 0), (.iload_n 2, 1, 0, 0, 0), (.bipush 100, 2, 100, 0, 0), (.irem, 1, 0, 0, 0)] 40 = true := by decide +kernel
theorem M_pitch_s43 : zseg (zown M_pitch) (zcode M_pitch) 43 [(.iload_n 3, 1, 0, 0, 0)] 44 = true := by decide +kernel
theorem M_pitch_s47 : zseg (zown M_pitch) (zcode M_pitch) 47 [(.aload_n 0, 1, 0, 0, 0), (.getfield 13, 3, 0, 11, 9), (.iload_n 1, 1, 0, 0, 0), (.iaload, 1, 0, 0, 0), (.goto 4, 3, 0, 0, 0), (.iadd, 1, 0, 0, 0)] 58 = true := by decide +kernel
theorem M_pitch_s56 : zseg (zown M_pitch) (zcode M_pitch) 56 [(.iconst 0, 1, 0, 0, 0), (.iadd, 1, 0, 0, 0)] 58 = true := by decide +kernel
theorem M_pitch_d2 : decode (zcode M_pitch) 2 = .ok (.invokevirtual 116, 3) := by decide +kernel
theorem M_pitch_d5 : decode (zcode M_pitch) 5 = .ok (.ifCond .eq 21, 3) := by decide +kernel
theorem M_pitch_d10 : decode (zcode M_pitch) 10 = .ok (.invokevirtual 256, 3) := by decide +kernel
theorem M_pitch_d13 : decode (zcode M_pitch) 13 = .ok (.ifCond .eq 13, 3) := by decide +kernel
theorem M_pitch_d20 : decode (zcode M_pitch) 20 = .ok (.invokevirtual 112, 3) := by decide +kernel
theorem M_pitch_d23 : decode (zcode M_pitch) 23 = .ok (.ifCond .ne 7, 3) := by decide +kernel
theorem M_pitch_d29 : decode (zcode M_pitch) 29 = .ok (.ireturn, 1) := by decide +kernel
theorem M_pitch_d40 : decode (zcode M_pitch) 40 = .ok (.invokevirtual 264, 3) := by decide +kernel
theorem M_pitch_d44 : decode (zcode M_pitch) 44 = .ok (.ifCond .ne 12, 3) := by decide +kernel
theorem M_pitch_d58 : decode (zcode M_pitch) 58 = .ok (.ireturn, 1) := by decide +kernel
theorem M_manyOff_s0 : zseg (zown M_manyOff) (zcode M_manyOff) 0 [(.iconst 0, 1, 0, 0, 0), (.istore_n 3, 1, 0, 0, 0), (.iconst 0, 1, 0, 0, 0), (.istore 4, 2, 0, 0, 0)] 5 = true := by decide +kernel
theorem M_manyOff_s5 : zseg (zown M_manyOff) (zcode M_manyOff) 5 [(.iload 4, 2, 0, 0, 0), (.aload_n 0, 1, 0, 0, 0), (.getfield 106, 3, 0, 11, 0)] 11 = true := by decide +kernel
theorem M_manyOff_s14 : zseg (zown M_manyOff) (zcode M_manyOff) 14 [(.iload_n 3, 1, 0, 0, 0), (.aload_n 0, 1, 0, 0, 0), (.aload_n 0, 1, 0, 0, 0), (.iload 4, 2, 0, 0, 0), (.iload_n 1, 1, 0, 0, 0), (.iload_n 2, 1, 0, 0, 0)] 21 = true := by decide +kernel
theorem M_manyOff_s27 : zseg (zown M_manyOff) (zcode M_manyOff) 27 [(.iconst 1, 1, 1, 0, 0), (.goto 4, 3, 0, 0, 0)] 32 = true := by decide +kernel
theorem M_manyOff_s31 : zseg (zown M_manyOff) (zcode M_manyOff) 31 [(.iconst 0, 1, 0, 0, 0)] 32 = true := by decide +kernel
theorem M_manyOff_s35 : zseg (zown M_manyOff) (zcode M_manyOff) 35 [(.iadd, 1, 0, 0, 0), (.istore_n 3, 1, 0, 0, 0), (.iinc 4 1, 3, 1, 0, 0), (.goto (-35), 3, 0, 0, 0)] 5 = true := by decide +kernel
theorem M_manyOff_s43 : zseg (zown M_manyOff) (zcode M_manyOff) 43 [(.iload_n 3, 1, 0, 0, 0)] 44 = true := by decide +kernel
theorem M_manyOff_d11 : decode (zcode M_manyOff) 11 = .ok (.if_icmp .ge 32, 3) := by decide +kernel
theorem M_manyOff_d21 : decode (zcode M_manyOff) 21 = .ok (.invokevirtual 264, 3) := by decide +kernel
theorem M_manyOff_d24 : decode (zcode M_manyOff) 24 = .ok (.ifCond .eq 7, 3) := by decide +kernel
theorem M_manyOff_d32 : decode (zcode M_manyOff) 32 = .ok (.invokevirtual 167, 3) := by decide +kernel
theorem M_manyOff_d44 : decode (zcode M_manyOff) 44 = .ok (.ireturn, 1) := by decide +kernel
theorem M_firstOff_s0 : zseg (zown M_firstOff) (zcode M_firstOff) 0 [(.iconst 0, 1, 0, 0, 0), (.istore_n 3, 1, 0, 0, 0)] 2 = true := by decide +kernel
theorem M_firstOff_s2 : zseg (zown M_firstOff) (zcode M_firstOff) 2 [(.iload_n 3, 1, 0, 0, 0), (.aload_n 0, 1, 0, 0, 0), (.getfield 106, 3, 0, 11, 0)] 7 = true := by decide +kernel
theorem M_firstOff_s10 : zseg (zown M_firstOff) (zcode M_firstOff) 10 [(.aload_n 0, 1, 0, 0, 0), (.iload_n 3, 1, 0, 0, 0), (.iload_n 1, 1, 0, 0, 0), (.iload_n 2, 1, 0, 0, 0)] 14 = true := by decide +kernel
theorem M_firstOff_s20 : zseg (zown M_firstOff) (zcode M_firstOff) 20 [(.iload_n 3, 1, 0, 0, 0)] 21 = true := by decide +kernel
theorem M_firstOff_s22 : zseg (zown M_firstOff) (zcode M_firstOff) 22 [(.iinc 3 1, 3, 1, 0, 0), (.goto (-23), 3, 0, 0, 0)] 2 = true := by decide +kernel
theorem M_firstOff_s28 : zseg (zown M_firstOff) (zcode M_firstOff) 28 [(.bipush (-2), 2, (-2), 0, 0)] 30 = true := by decide +kernel
theorem M_firstOff_d7 : decode (zcode M_firstOff) 7 = .ok (.if_icmp .ge 21, 3) := by decide +kernel
theorem M_firstOff_d14 : decode (zcode M_firstOff) 14 = .ok (.invokevirtual 264, 3) := by decide +kernel
theorem M_firstOff_d17 : decode (zcode M_firstOff) 17 = .ok (.ifCond .eq 5, 3) := by decide +kernel
theorem M_firstOff_d21 : decode (zcode M_firstOff) 21 = .ok (.ireturn, 1) := by decide +kernel
theorem M_firstOff_d30 : decode (zcode M_firstOff) 30 = .ok (.ireturn, 1) := by decide +kernel
theorem M_manyBroken_s0 : zseg (zown M_manyBroken) (zcode M_manyBroken) 0 [(.iconst 0, 1, 0, 0, 0), (.istore_n 2, 1, 0, 0, 0), (.iconst 0, 1, 0, 0, 0), (.istore_n 3, 1, 0, 0, 0)] 4 = true := by decide +kernel
theorem M_manyBroken_s4 : zseg (zown M_manyBroken) (zcode M_manyBroken) 4 [(.iload_n 3, 1, 0, 0, 0), (.aload_n 0, 1, 0, 0, 0), (.getfield 109, 3, 0, 11, 1)] 9 = true := by decide +kernel
theorem M_manyBroken_s12 : zseg (zown M_manyBroken) (zcode M_manyBroken) 12 [(.iload_n 2, 1, 0, 0, 0), (.aload_n 0, 1, 0, 0, 0), (.aload_n 0, 1, 0, 0, 0), (.iload_n 3, 1, 0, 0, 0), (.iload_n 1, 1, 0, 0, 0)] 17 = true := by decide +kernel
theorem M_manyBroken_s23 : zseg (zown M_manyBroken) (zcode M_manyBroken) 23 [(.iconst 1, 1, 1, 0, 0), (.goto 4, 3, 0, 0, 0)] 28 = true := by decide +kernel
theorem M_manyBroken_s27 : zseg (zown M_manyBroken) (zcode M_manyBroken) 27 [(.iconst 0, 1, 0, 0, 0)] 28 = true := by decide +kernel
theorem M_manyBroken_s31 : zseg (zown M_manyBroken) (zcode M_manyBroken) 31 [(.iadd, 1, 0, 0, 0), (.istore_n 2, 1, 0, 0, 0), (.iinc 3 1, 3, 1, 0, 0), (.goto (-32), 3, 0, 0, 0)] 4 = true := by decide +kernel
theorem M_manyBroken_s39 : zseg (zown M_manyBroken) (zcode M_manyBroken) 39 [(.iload_n 2, 1, 0, 0, 0)] 40 = true := by decide +kernel
theorem M_manyBroken_d9 : decode (zcode M_manyBroken) 9 = .ok (.if_icmp .ge 30, 3) := by decide +kernel
theorem M_manyBroken_d17 : decode (zcode M_manyBroken) 17 = .ok (.invokevirtual 164, 3) := by decide +kernel
theorem M_manyBroken_d20 : decode (zcode M_manyBroken) 20 = .ok (.ifCond .ne 7, 3) := by decide +kernel
theorem M_manyBroken_d28 : decode (zcode M_manyBroken) 28 = .ok (.invokevirtual 167, 3) := by decide +kernel
theorem M_manyBroken_d40 : decode (zcode M_manyBroken) 40 = .ok (.ireturn, 1) := by decide +kernel
theorem M_putsMost_s0 : zseg (zown M_putsMost) (zcode M_putsMost) 0 [(.bipush (-2), 2, (-2), 0, 0), (.istore_n 2, 1, 0, 0, 0), (.iconst 0, 1, 0, 0, 0), (.istore_n 3, 1, 0, 0, 0)] 5 = true := by decide +kernel
theorem M_putsMost_s5 : zseg (zown M_putsMost) (zcode M_putsMost) 5 [(.iload_n 3, 1, 0, 0, 0), (.aload_n 0, 1, 0, 0, 0), (.getfield 109, 3, 0, 11, 1)] 10 = true := by decide +kernel
theorem M_putsMost_s13 : zseg (zown M_putsMost) (zcode M_putsMost) 13 [(.iload_n 2, 1, 0, 0, 0), (.bipush (-2), 2, (-2), 0, 0)] 16 = true := by decide +kernel
theorem M_putsMost_s19 : zseg (zown M_putsMost) (zcode M_putsMost) 19 [(.aload_n 0, 1, 0, 0, 0), (.aload_n 0, 1, 0, 0, 0), (.iload_n 3, 1, 0, 0, 0), (.iload_n 1, 1, 0, 0, 0)] 23 = true := by decide +kernel
theorem M_putsMost_s29 : zseg (zown M_putsMost) (zcode M_putsMost) 29 [(.aload_n 0, 1, 0, 0, 0), (.aload_n 0, 1, 0, 0, 0), (.iload_n 2, 1, 0, 0, 0), (.iload_n 1, 1, 0, 0, 0)] 33 = true := by decide +kernel
theorem M_putsMost_s42 : zseg (zown M_putsMost) (zcode M_putsMost) 42 [(.iload_n 3, 1, 0, 0, 0), (.istore_n 2, 1, 0, 0, 0), (.iinc 3 1, 3, 1, 0, 0), (.goto (-42), 3, 0, 0, 0)] 5 = true := by decide +kernel
theorem M_putsMost_s44 : zseg (zown M_putsMost) (zcode M_putsMost) 44 [(.iinc 3 1, 3, 1, 0, 0), (.goto (-42), 3, 0, 0, 0)] 5 = true := by decide +kernel
theorem M_putsMost_s50 : zseg (zown M_putsMost) (zcode M_putsMost) 50 [(.iload_n 2, 1, 0, 0, 0)] 51 = true := by decide +kernel
theorem M_putsMost_d10 : decode (zcode M_putsMost) 10 = .ok (.if_icmp .ge 40, 3) := by decide +kernel
theorem M_putsMost_d16 : decode (zcode M_putsMost) 16 = .ok (.if_icmp .eq 26, 3) := by decide +kernel
theorem M_putsMost_d23 : decode (zcode M_putsMost) 23 = .ok (.invokevirtual 267, 3) := by decide +kernel
theorem M_putsMost_d26 : decode (zcode M_putsMost) 26 = .ok (.invokevirtual 270, 3) := by decide +kernel
theorem M_putsMost_d33 : decode (zcode M_putsMost) 33 = .ok (.invokevirtual 267, 3) := by decide +kernel
theorem M_putsMost_d36 : decode (zcode M_putsMost) 36 = .ok (.invokevirtual 270, 3) := by decide +kernel
theorem M_putsMost_d39 : decode (zcode M_putsMost) 39 = .ok (.if_icmp .le 5, 3) := by decide +kernel
theorem M_putsMost_d51 : decode (zcode M_putsMost) 51 = .ok (.ireturn, 1) := by decide +kernel
theorem M_town_s0 : zseg (zown M_town) (zcode M_town) 0 [(.aload_n 0, 1, 0, 0, 0), (.iload_n 1, 1, 0, 0, 0)] 2 = true := by decide +kernel
theorem M_town_s8 : zseg (zown M_town) (zcode M_town) 8 [(.iconst (-1), 1, (-1), 0, 0)] 9 = true := by decide +kernel
theorem M_town_s10 : zseg (zown M_town) (zcode M_town) 10 [(.iload_n 2, 1, 0, 0, 0)] 11 = true := by decide +kernel
theorem M_town_s40 : zseg (zown M_town) (zcode M_town) 40 [(.aload_n 0, 1, 0, 0, 0), (.iload_n 1, 1, 0, 0, 0), (.bipush 100, 2, 100, 0, 0), (.idiv, 1, 0, 0, 0), (.iload_n 1, 1, 0, 0, 0), (.bipush 100, 2, 100, 0, 0), (.irem, 1, 0, 0, 0)] 49 = true := by decide +kernel
theorem M_town_s53 : zseg (zown M_town) (zcode M_town) 53 [(.aload_n 0, 1, 0, 0, 0), (.iload_n 1, 1, 0, 0, 0), (.bipush 100, 2, 100, 0, 0), (.idiv, 1, 0, 0, 0), (.iload_n 1, 1, 0, 0, 0), (.bipush 100, 2, 100, 0, 0), (.irem, 1, 0, 0, 0)] 62 = true := by decide +kernel
theorem M_town_s66 : zseg (zown M_town) (zcode M_town) 66 [(.aload_n 0, 1, 0, 0, 0), (.iload_n 1, 1, 0, 0, 0), (.bipush 100, 2, 100, 0, 0), (.idiv, 1, 0, 0, 0)] 71 = true := by decide +kernel
theorem M_town_s75 : zseg (zown M_town) (zcode M_town) 75 [(.aload_n 0, 1, 0, 0, 0), (.iload_n 1, 1, 0, 0, 0)] 77 = true := by decide +kernel
theorem M_town_s81 : zseg (zown M_town) (zcode M_town) 81 [(.iconst (-1), 1, (-1), 0, 0)] 82 = true := by decide +kernel
theorem M_town_d2 : decode (zcode M_town) 2 = .ok (.invokevirtual 256, 3) := by decide +kernel
theorem M_town_d5 : decode (zcode M_town) 5 = .ok (.ifCond .ne 5, 3) := by decide +kernel
theorem M_town_d9 : decode (zcode M_town) 9 = .ok (.ireturn, 1) := by decide +kernel
theorem M_town_d11 : decode (zcode M_town) 11 = .ok (.tableswitch 70 0 3 #[29, 42, 55, 64], 29) := by decide +kernel
theorem M_town_d49 : decode (zcode M_town) 49 = .ok (.invokevirtual 273, 3) := by decide +kernel
theorem M_town_d52 : decode (zcode M_town) 52 = .ok (.ireturn, 1) := by decide +kernel
theorem M_town_d62 : decode (zcode M_town) 62 = .ok (.invokevirtual 276, 3) := by decide +kernel
theorem M_town_d65 : decode (zcode M_town) 65 = .ok (.ireturn, 1) := by decide +kernel
theorem M_town_d71 : decode (zcode M_town) 71 = .ok (.invokevirtual 279, 3) := by decide +kernel
theorem M_town_d74 : decode (zcode M_town) 74 = .ok (.ireturn, 1) := by decide +kernel
theorem M_town_d77 : decode (zcode M_town) 77 = .ok (.invokevirtual 282, 3) := by decide +kernel
theorem M_town_d80 : decode (zcode M_town) 80 = .ok (.ireturn, 1) := by decide +kernel
theorem M_town_d82 : decode (zcode M_town) 82 = .ok (.ireturn, 1) := by decide +kernel
