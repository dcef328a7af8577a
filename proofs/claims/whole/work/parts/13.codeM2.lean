/-! by program (wip/whole/gen_code.py): records, stretches, decode facts -/
theorem M_beat_s0 : zseg (zown M_beat) (zcode M_beat) 0 [(.aload_n 0, 1, 0, 0, 0), (.getfield 17, 3, 0, 11, 10), (.iload_n 1, 1, 0, 0, 0), (.iload_n 2, 1, 0, 0, 0)] 6 = true := by decide +kernel
theorem M_beat_s9 : zseg (zown M_beat) (zcode M_beat) 9 [(.iload_n 1, 1, 0, 0, 0), (.goto 4, 3, 0, 0, 0), (.iaload, 1, 0, 0, 0), (.istore 4, 2, 0, 0, 0), (.aload_n 0, 1, 0, 0, 0), (.aload_n 0, 1, 0, 0, 0), (.iload_n 1, 1, 0, 0, 0), (.iload_n 3, 1, 0, 0, 0), (.iconst 0, 1, 0, 0, 0)] 22 = true := by decide +kernel
theorem M_beat_s13 : zseg (zown M_beat) (zcode M_beat) 13 [(.iload_n 2, 1, 0, 0, 0), (.iaload, 1, 0, 0, 0), (.istore 4, 2, 0, 0, 0), (.aload_n 0, 1, 0, 0, 0), (.aload_n 0, 1, 0, 0, 0), (.iload_n 1, 1, 0, 0, 0), (.iload_n 3, 1, 0, 0, 0), (.iconst 0, 1, 0, 0, 0)] 22 = true := by decide +kernel
theorem M_beat_s25 : zseg (zown M_beat) (zcode M_beat) 25 [(.aload_n 0, 1, 0, 0, 0), (.iload_n 2, 1, 0, 0, 0), (.iload_n 3, 1, 0, 0, 0), (.iconst 0, 1, 0, 0, 0)] 29 = true := by decide +kernel
theorem M_beat_s32 : zseg (zown M_beat) (zcode M_beat) 32 [(.isub, 1, 0, 0, 0)] 33 = true := by decide +kernel
theorem M_beat_s36 : zseg (zown M_beat) (zcode M_beat) 36 [(.iload 4, 2, 0, 0, 0), (.irem, 1, 0, 0, 0), (.istore 5, 2, 0, 0, 0), (.iload 5, 2, 0, 0, 0), (.iload 4, 2, 0, 0, 0), (.iload 5, 2, 0, 0, 0), (.isub, 1, 0, 0, 0)] 48 = true := by decide +kernel
theorem M_beat_s51 : zseg (zown M_beat) (zcode M_beat) 51 [(.iload 5, 2, 0, 0, 0), (.goto 8, 3, 0, 0, 0)] 61 = true := by decide +kernel
theorem M_beat_s56 : zseg (zown M_beat) (zcode M_beat) 56 [(.iload 4, 2, 0, 0, 0), (.iload 5, 2, 0, 0, 0), (.isub, 1, 0, 0, 0)] 61 = true := by decide +kernel
theorem M_beat_d6 : decode (zcode M_beat) 6 = .ok (.if_icmp .ge 7, 3) := by decide +kernel
theorem M_beat_d22 : decode (zcode M_beat) 22 = .ok (.invokevirtual 285, 3) := by decide +kernel
theorem M_beat_d29 : decode (zcode M_beat) 29 = .ok (.invokevirtual 285, 3) := by decide +kernel
theorem M_beat_d33 : decode (zcode M_beat) 33 = .ok (.invokevirtual 270, 3) := by decide +kernel
theorem M_beat_d48 : decode (zcode M_beat) 48 = .ok (.if_icmp .ge 8, 3) := by decide +kernel
theorem M_beat_d61 : decode (zcode M_beat) 61 = .ok (.ireturn, 1) := by decide +kernel
theorem M_beats_s0 : zseg (zown M_beats) (zcode M_beats) 0 [(.iload_n 1, 1, 0, 0, 0)] 1 = true := by decide +kernel
theorem M_beats_s4 : zseg (zown M_beats) (zcode M_beats) 4 [(.aload_n 0, 1, 0, 0, 0), (.iload_n 1, 1, 0, 0, 0), (.bipush 10, 2, 10, 0, 0), (.idiv, 1, 0, 0, 0)] 9 = true := by decide +kernel
theorem M_beats_s15 : zseg (zown M_beats) (zcode M_beats) 15 [(.aload_n 0, 1, 0, 0, 0), (.iload_n 1, 1, 0, 0, 0), (.bipush 10, 2, 10, 0, 0), (.irem, 1, 0, 0, 0)] 20 = true := by decide +kernel
theorem M_beats_s26 : zseg (zown M_beats) (zcode M_beats) 26 [(.iload_n 1, 1, 0, 0, 0), (.bipush 10, 2, 10, 0, 0), (.idiv, 1, 0, 0, 0), (.iload_n 1, 1, 0, 0, 0), (.bipush 10, 2, 10, 0, 0), (.irem, 1, 0, 0, 0)] 34 = true := by decide +kernel
theorem M_beats_s37 : zseg (zown M_beats) (zcode M_beats) 37 [(.aload_n 0, 1, 0, 0, 0), (.iload_n 2, 1, 0, 0, 0)] 39 = true := by decide +kernel
theorem M_beats_s45 : zseg (zown M_beats) (zcode M_beats) 45 [(.iconst (-1), 1, (-1), 0, 0)] 46 = true := by decide +kernel
theorem M_beats_s47 : zseg (zown M_beats) (zcode M_beats) 47 [(.aload_n 0, 1, 0, 0, 0), (.iload_n 1, 1, 0, 0, 0), (.bipush 10, 2, 10, 0, 0), (.idiv, 1, 0, 0, 0), (.iload_n 1, 1, 0, 0, 0), (.bipush 10, 2, 10, 0, 0), (.irem, 1, 0, 0, 0), (.iload_n 2, 1, 0, 0, 0)] 57 = true := by decide +kernel
theorem M_beats_d1 : decode (zcode M_beats) 1 = .ok (.ifCond .lt 44, 3) := by decide +kernel
theorem M_beats_d9 : decode (zcode M_beats) 9 = .ok (.invokevirtual 116, 3) := by decide +kernel
theorem M_beats_d12 : decode (zcode M_beats) 12 = .ok (.ifCond .eq 33, 3) := by decide +kernel
theorem M_beats_d20 : decode (zcode M_beats) 20 = .ok (.invokevirtual 116, 3) := by decide +kernel
theorem M_beats_d23 : decode (zcode M_beats) 23 = .ok (.ifCond .eq 22, 3) := by decide +kernel
theorem M_beats_d34 : decode (zcode M_beats) 34 = .ok (.if_icmp .eq 11, 3) := by decide +kernel
theorem M_beats_d39 : decode (zcode M_beats) 39 = .ok (.invokevirtual 256, 3) := by decide +kernel
theorem M_beats_d42 : decode (zcode M_beats) 42 = .ok (.ifCond .ne 5, 3) := by decide +kernel
theorem M_beats_d46 : decode (zcode M_beats) 46 = .ok (.ireturn, 1) := by decide +kernel
theorem M_beats_d57 : decode (zcode M_beats) 57 = .ok (.invokevirtual 288, 3) := by decide +kernel
theorem M_beats_d60 : decode (zcode M_beats) 60 = .ok (.ireturn, 1) := by decide +kernel
theorem M_chime_s0 : zseg (zown M_chime) (zcode M_chime) 0 [(.iload_n 1, 1, 0, 0, 0)] 1 = true := by decide +kernel
theorem M_chime_s4 : zseg (zown M_chime) (zcode M_chime) 4 [(.iload_n 1, 1, 0, 0, 0), (.iconst 1, 1, 1, 0, 0), (.aload_n 0, 1, 0, 0, 0), (.getfield 106, 3, 0, 11, 0), (.ishl, 1, 0, 0, 0)] 11 = true := by decide +kernel
theorem M_chime_s14 : zseg (zown M_chime) (zcode M_chime) 14 [(.aload_n 0, 1, 0, 0, 0), (.iload_n 2, 1, 0, 0, 0)] 16 = true := by decide +kernel
theorem M_chime_s22 : zseg (zown M_chime) (zcode M_chime) 22 [(.aload_n 0, 1, 0, 0, 0), (.iload_n 3, 1, 0, 0, 0), (.iconst 0, 1, 0, 0, 0), (.iconst 1, 1, 1, 0, 0)] 26 = true := by decide +kernel
theorem M_chime_s32 : zseg (zown M_chime) (zcode M_chime) 32 [(.iconst (-1), 1, (-1), 0, 0)] 33 = true := by decide +kernel
theorem M_chime_s34 : zseg (zown M_chime) (zcode M_chime) 34 [(.iconst 0, 1, 0, 0, 0), (.istore 4, 2, 0, 0, 0), (.bipush (-2), 2, (-2), 0, 0), (.istore 5, 2, 0, 0, 0), (.iconst 0, 1, 0, 0, 0), (.istore 6, 2, 0, 0, 0), (.iconst 0, 1, 0, 0, 0), (.istore 7, 2, 0, 0, 0)] 47 = true := by decide +kernel
theorem M_chime_s47 : zseg (zown M_chime) (zcode M_chime) 47 [(.iload 7, 2, 0, 0, 0), (.aload_n 0, 1, 0, 0, 0), (.getfield 106, 3, 0, 11, 0)] 53 = true := by decide +kernel
theorem M_chime_s56 : zseg (zown M_chime) (zcode M_chime) 56 [(.iload 7, 2, 0, 0, 0), (.iconst 1, 1, 1, 0, 0), (.iadd, 1, 0, 0, 0), (.istore 8, 2, 0, 0, 0)] 62 = true := by decide +kernel
theorem M_chime_s62 : zseg (zown M_chime) (zcode M_chime) 62 [(.iload 8, 2, 0, 0, 0), (.aload_n 0, 1, 0, 0, 0), (.getfield 106, 3, 0, 11, 0)] 68 = true := by decide +kernel
theorem M_chime_s71 : zseg (zown M_chime) (zcode M_chime) 71 [(.aload_n 0, 1, 0, 0, 0), (.iload_n 1, 1, 0, 0, 0), (.iload 7, 2, 0, 0, 0)] 75 = true := by decide +kernel
theorem M_chime_s81 : zseg (zown M_chime) (zcode M_chime) 81 [(.aload_n 0, 1, 0, 0, 0), (.iload_n 1, 1, 0, 0, 0), (.iload 8, 2, 0, 0, 0)] 85 = true := by decide +kernel
theorem M_chime_s91 : zseg (zown M_chime) (zcode M_chime) 91 [(.goto 64, 3, 0, 0, 0), (.iinc 8 1, 3, 1, 0, 0), (.goto (-96), 3, 0, 0, 0)] 62 = true := by decide +kernel
theorem M_chime_s94 : zseg (zown M_chime) (zcode M_chime) 94 [(.aload_n 0, 1, 0, 0, 0), (.iload 7, 2, 0, 0, 0), (.iload 8, 2, 0, 0, 0), (.iload_n 2, 1, 0, 0, 0)] 100 = true := by decide +kernel
theorem M_chime_s103 : zseg (zown M_chime) (zcode M_chime) 103 [(.istore 9, 2, 0, 0, 0), (.iload 4, 2, 0, 0, 0), (.aload_n 0, 1, 0, 0, 0), (.iload 9, 2, 0, 0, 0)] 110 = true := by decide +kernel
theorem M_chime_s113 : zseg (zown M_chime) (zcode M_chime) 113 [(.iconst 1, 1, 1, 0, 0), (.goto 4, 3, 0, 0, 0)] 118 = true := by decide +kernel
theorem M_chime_s117 : zseg (zown M_chime) (zcode M_chime) 117 [(.iconst 0, 1, 0, 0, 0)] 118 = true := by decide +kernel
theorem M_chime_s121 : zseg (zown M_chime) (zcode M_chime) 121 [(.iadd, 1, 0, 0, 0), (.istore 4, 2, 0, 0, 0), (.iload 5, 2, 0, 0, 0), (.bipush (-2), 2, (-2), 0, 0)] 128 = true := by decide +kernel
theorem M_chime_s131 : zseg (zown M_chime) (zcode M_chime) 131 [(.iload 9, 2, 0, 0, 0), (.iload 6, 2, 0, 0, 0)] 135 = true := by decide +kernel
theorem M_chime_s138 : zseg (zown M_chime) (zcode M_chime) 138 [(.goto 17, 3, 0, 0, 0), (.iinc 8 1, 3, 1, 0, 0), (.goto (-96), 3, 0, 0, 0)] 62 = true := by decide +kernel
theorem M_chime_s141 : zseg (zown M_chime) (zcode M_chime) 141 [(.bipush 10, 2, 10, 0, 0), (.iload 7, 2, 0, 0, 0), (.imul, 1, 0, 0, 0), (.iload 8, 2, 0, 0, 0), (.iadd, 1, 0, 0, 0), (.istore 5, 2, 0, 0, 0), (.iload 9, 2, 0, 0, 0), (.istore 6, 2, 0, 0, 0), (.iinc 8 1, 3, 1, 0, 0), (.goto (-96), 3, 0, 0, 0)] 62 = true := by decide +kernel
theorem M_chime_s155 : zseg (zown M_chime) (zcode M_chime) 155 [(.iinc 8 1, 3, 1, 0, 0), (.goto (-96), 3, 0, 0, 0)] 62 = true := by decide +kernel
theorem M_chime_s161 : zseg (zown M_chime) (zcode M_chime) 161 [(.iinc 7 1, 3, 1, 0, 0), (.goto (-117), 3, 0, 0, 0)] 47 = true := by decide +kernel
theorem M_chime_s167 : zseg (zown M_chime) (zcode M_chime) 167 [(.iload_n 3, 1, 0, 0, 0)] 168 = true := by decide +kernel
theorem M_chime_s171 : zseg (zown M_chime) (zcode M_chime) 171 [(.iload 4, 2, 0, 0, 0), (.goto 5, 3, 0, 0, 0)] 178 = true := by decide +kernel
theorem M_chime_s176 : zseg (zown M_chime) (zcode M_chime) 176 [(.iload 5, 2, 0, 0, 0)] 178 = true := by decide +kernel
theorem M_chime_d1 : decode (zcode M_chime) 1 = .ok (.ifCond .lt 31, 3) := by decide +kernel
theorem M_chime_d11 : decode (zcode M_chime) 11 = .ok (.if_icmp .ge 21, 3) := by decide +kernel
theorem M_chime_d16 : decode (zcode M_chime) 16 = .ok (.invokevirtual 256, 3) := by decide +kernel
theorem M_chime_d19 : decode (zcode M_chime) 19 = .ok (.ifCond .eq 13, 3) := by decide +kernel
theorem M_chime_d26 : decode (zcode M_chime) 26 = .ok (.invokevirtual 112, 3) := by decide +kernel
theorem M_chime_d29 : decode (zcode M_chime) 29 = .ok (.ifCond .ne 5, 3) := by decide +kernel
theorem M_chime_d33 : decode (zcode M_chime) 33 = .ok (.ireturn, 1) := by decide +kernel
theorem M_chime_d53 : decode (zcode M_chime) 53 = .ok (.if_icmp .ge 114, 3) := by decide +kernel
theorem M_chime_d68 : decode (zcode M_chime) 68 = .ok (.if_icmp .ge 93, 3) := by decide +kernel
theorem M_chime_d75 : decode (zcode M_chime) 75 = .ok (.invokevirtual 291, 3) := by decide +kernel
theorem M_chime_d78 : decode (zcode M_chime) 78 = .ok (.ifCond .eq 77, 3) := by decide +kernel
theorem M_chime_d85 : decode (zcode M_chime) 85 = .ok (.invokevirtual 291, 3) := by decide +kernel
theorem M_chime_d88 : decode (zcode M_chime) 88 = .ok (.ifCond .ne 6, 3) := by decide +kernel
theorem M_chime_d100 : decode (zcode M_chime) 100 = .ok (.invokevirtual 288, 3) := by decide +kernel
theorem M_chime_d110 : decode (zcode M_chime) 110 = .ok (.ifCond .ne 7, 3) := by decide +kernel
theorem M_chime_d118 : decode (zcode M_chime) 118 = .ok (.invokevirtual 167, 3) := by decide +kernel
theorem M_chime_d128 : decode (zcode M_chime) 128 = .ok (.if_icmp .eq 13, 3) := by decide +kernel
theorem M_chime_d135 : decode (zcode M_chime) 135 = .ok (.if_icmp .gt 6, 3) := by decide +kernel
theorem M_chime_d168 : decode (zcode M_chime) 168 = .ok (.ifCond .ne 8, 3) := by decide +kernel
theorem M_chime_d178 : decode (zcode M_chime) 178 = .ok (.ireturn, 1) := by decide +kernel
theorem M_days_s0 : zseg (zown M_days) (zcode M_days) 0 [(.aload_n 0, 1, 0, 0, 0), (.iload_n 1, 1, 0, 0, 0)] 2 = true := by decide +kernel
theorem M_days_s8 : zseg (zown M_days) (zcode M_days) 8 [(.aload_n 0, 1, 0, 0, 0), (.iload_n 2, 1, 0, 0, 0)] 10 = true := by decide +kernel
theorem M_days_s16 : zseg (zown M_days) (zcode M_days) 16 [(.aload_n 0, 1, 0, 0, 0), (.iload_n 3, 1, 0, 0, 0), (.iconst 0, 1, 0, 0, 0), (.sipush 999, 3, 999, 0, 0)] 22 = true := by decide +kernel
theorem M_days_s28 : zseg (zown M_days) (zcode M_days) 28 [(.iconst (-1), 1, (-1), 0, 0)] 29 = true := by decide +kernel
theorem M_days_s30 : zseg (zown M_days) (zcode M_days) 30 [(.iconst 0, 1, 0, 0, 0), (.istore 4, 2, 0, 0, 0), (.iload_n 2, 1, 0, 0, 0), (.bipush 100, 2, 100, 0, 0), (.idiv, 1, 0, 0, 0), (.istore 5, 2, 0, 0, 0)] 39 = true := by decide +kernel
theorem M_days_s39 : zseg (zown M_days) (zcode M_days) 39 [(.iload 5, 2, 0, 0, 0), (.sipush 998, 3, 998, 0, 0)] 44 = true := by decide +kernel
theorem M_days_s47 : zseg (zown M_days) (zcode M_days) 47 [(.iload_n 3, 1, 0, 0, 0)] 48 = true := by decide +kernel
theorem M_days_s51 : zseg (zown M_days) (zcode M_days) 51 [(.iload 5, 2, 0, 0, 0), (.iload_n 2, 1, 0, 0, 0), (.bipush 100, 2, 100, 0, 0), (.idiv, 1, 0, 0, 0), (.iload_n 3, 1, 0, 0, 0), (.iadd, 1, 0, 0, 0)] 59 = true := by decide +kernel
theorem M_days_s62 : zseg (zown M_days) (zcode M_days) 62 [(.aload_n 0, 1, 0, 0, 0), (.iload_n 1, 1, 0, 0, 0), (.iload 5, 2, 0, 0, 0), (.iload_n 2, 1, 0, 0, 0), (.bipush 100, 2, 100, 0, 0), (.irem, 1, 0, 0, 0)] 70 = true := by decide +kernel
theorem M_days_s76 : zseg (zown M_days) (zcode M_days) 76 [(.iconst 1, 1, 1, 0, 0), (.goto 4, 3, 0, 0, 0), (.istore 6, 2, 0, 0, 0), (.iload_n 3, 1, 0, 0, 0)] 84 = true := by decide +kernel
theorem M_days_s80 : zseg (zown M_days) (zcode M_days) 80 [(.iconst 0, 1, 0, 0, 0), (.istore 6, 2, 0, 0, 0), (.iload_n 3, 1, 0, 0, 0)] 84 = true := by decide +kernel
theorem M_days_s87 : zseg (zown M_days) (zcode M_days) 87 [(.iload 6, 2, 0, 0, 0)] 89 = true := by decide +kernel
theorem M_days_s92 : zseg (zown M_days) (zcode M_days) 92 [(.iload 5, 2, 0, 0, 0)] 94 = true := by decide +kernel
theorem M_days_s95 : zseg (zown M_days) (zcode M_days) 95 [(.iload 4, 2, 0, 0, 0), (.aload_n 0, 1, 0, 0, 0), (.iload 6, 2, 0, 0, 0)] 100 = true := by decide +kernel
theorem M_days_s103 : zseg (zown M_days) (zcode M_days) 103 [(.iadd, 1, 0, 0, 0), (.istore 4, 2, 0, 0, 0), (.iinc 5 1, 3, 1, 0, 0), (.goto (-70), 3, 0, 0, 0)] 39 = true := by decide +kernel
theorem M_days_s112 : zseg (zown M_days) (zcode M_days) 112 [(.iload_n 3, 1, 0, 0, 0)] 113 = true := by decide +kernel
theorem M_days_s116 : zseg (zown M_days) (zcode M_days) 116 [(.bipush (-2), 2, (-2), 0, 0), (.goto 5, 3, 0, 0, 0)] 123 = true := by decide +kernel
theorem M_days_s121 : zseg (zown M_days) (zcode M_days) 121 [(.iload 4, 2, 0, 0, 0)] 123 = true := by decide +kernel
theorem M_days_d2 : decode (zcode M_days) 2 = .ok (.invokevirtual 116, 3) := by decide +kernel
theorem M_days_d5 : decode (zcode M_days) 5 = .ok (.ifCond .eq 23, 3) := by decide +kernel
theorem M_days_d10 : decode (zcode M_days) 10 = .ok (.invokevirtual 256, 3) := by decide +kernel
theorem M_days_d13 : decode (zcode M_days) 13 = .ok (.ifCond .eq 15, 3) := by decide +kernel
theorem M_days_d22 : decode (zcode M_days) 22 = .ok (.invokevirtual 112, 3) := by decide +kernel
theorem M_days_d25 : decode (zcode M_days) 25 = .ok (.ifCond .ne 5, 3) := by decide +kernel
theorem M_days_d29 : decode (zcode M_days) 29 = .ok (.ireturn, 1) := by decide +kernel
theorem M_days_d44 : decode (zcode M_days) 44 = .ok (.if_icmp .gt 68, 3) := by decide +kernel
theorem M_days_d48 : decode (zcode M_days) 48 = .ok (.ifCond .eq 14, 3) := by decide +kernel
theorem M_days_d59 : decode (zcode M_days) 59 = .ok (.if_icmp .ge 53, 3) := by decide +kernel
theorem M_days_d70 : decode (zcode M_days) 70 = .ok (.invokevirtual 264, 3) := by decide +kernel
theorem M_days_d73 : decode (zcode M_days) 73 = .ok (.ifCond .eq 7, 3) := by decide +kernel
theorem M_days_d84 : decode (zcode M_days) 84 = .ok (.ifCond .ne 11, 3) := by decide +kernel
theorem M_days_d89 : decode (zcode M_days) 89 = .ok (.ifCond .ne 6, 3) := by decide +kernel
theorem M_days_d94 : decode (zcode M_days) 94 = .ok (.ireturn, 1) := by decide +kernel
theorem M_days_d100 : decode (zcode M_days) 100 = .ok (.invokevirtual 167, 3) := by decide +kernel
theorem M_days_d113 : decode (zcode M_days) 113 = .ok (.ifCond .ne 8, 3) := by decide +kernel
theorem M_days_d123 : decode (zcode M_days) 123 = .ok (.ireturn, 1) := by decide +kernel
theorem M_faultOf_s0 : zseg (zown M_faultOf) (zcode M_faultOf) 0 [(.iconst 0, 1, 0, 0, 0), (.istore_n 3, 1, 0, 0, 0), (.iconst 0, 1, 0, 0, 0), (.istore 4, 2, 0, 0, 0)] 5 = true := by decide +kernel
theorem M_faultOf_s5 : zseg (zown M_faultOf) (zcode M_faultOf) 5 [(.iload 4, 2, 0, 0, 0), (.aload_n 0, 1, 0, 0, 0), (.getfield 106, 3, 0, 11, 0)] 11 = true := by decide +kernel
theorem M_faultOf_s14 : zseg (zown M_faultOf) (zcode M_faultOf) 14 [(.iconst 0, 1, 0, 0, 0), (.istore 5, 2, 0, 0, 0), (.iconst 0, 1, 0, 0, 0), (.istore 6, 2, 0, 0, 0)] 20 = true := by decide +kernel
theorem M_faultOf_s20 : zseg (zown M_faultOf) (zcode M_faultOf) 20 [(.iload 6, 2, 0, 0, 0), (.aload_n 0, 1, 0, 0, 0), (.getfield 109, 3, 0, 11, 1)] 26 = true := by decide +kernel
theorem M_faultOf_s29 : zseg (zown M_faultOf) (zcode M_faultOf) 29 [(.aload_n 0, 1, 0, 0, 0), (.getfield 20, 3, 0, 11, 11), (.iload 6, 2, 0, 0, 0), (.iaload, 1, 0, 0, 0), (.iload 4, 2, 0, 0, 0)] 38 = true := by decide +kernel
theorem M_faultOf_s41 : zseg (zown M_faultOf) (zcode M_faultOf) 41 [(.aload_n 0, 1, 0, 0, 0), (.getfield 26, 3, 0, 11, 13), (.iload 6, 2, 0, 0, 0), (.iaload, 1, 0, 0, 0), (.iload_n 1, 1, 0, 0, 0)] 49 = true := by decide +kernel
theorem M_faultOf_s52 : zseg (zown M_faultOf) (zcode M_faultOf) 52 [(.iload 5, 2, 0, 0, 0), (.aload_n 0, 1, 0, 0, 0), (.iload 6, 2, 0, 0, 0), (.iload_n 2, 1, 0, 0, 0)] 58 = true := by decide +kernel
theorem M_faultOf_s61 : zseg (zown M_faultOf) (zcode M_faultOf) 61 [(.iadd, 1, 0, 0, 0), (.istore 5, 2, 0, 0, 0), (.iinc 6 1, 3, 1, 0, 0), (.goto (-47), 3, 0, 0, 0)] 20 = true := by decide +kernel
theorem M_faultOf_s64 : zseg (zown M_faultOf) (zcode M_faultOf) 64 [(.iinc 6 1, 3, 1, 0, 0), (.goto (-47), 3, 0, 0, 0)] 20 = true := by decide +kernel
theorem M_faultOf_s70 : zseg (zown M_faultOf) (zcode M_faultOf) 70 [(.iload_n 3, 1, 0, 0, 0), (.aload_n 0, 1, 0, 0, 0), (.iload 5, 2, 0, 0, 0)] 74 = true := by decide +kernel
theorem M_faultOf_s77 : zseg (zown M_faultOf) (zcode M_faultOf) 77 [(.iadd, 1, 0, 0, 0), (.istore_n 3, 1, 0, 0, 0), (.iinc 4 1, 3, 1, 0, 0), (.goto (-77), 3, 0, 0, 0)] 5 = true := by decide +kernel
theorem M_faultOf_s85 : zseg (zown M_faultOf) (zcode M_faultOf) 85 [(.iload_n 3, 1, 0, 0, 0)] 86 = true := by decide +kernel
theorem M_faultOf_d11 : decode (zcode M_faultOf) 11 = .ok (.if_icmp .ge 74, 3) := by decide +kernel
theorem M_faultOf_d26 : decode (zcode M_faultOf) 26 = .ok (.if_icmp .ge 44, 3) := by decide +kernel
theorem M_faultOf_d38 : decode (zcode M_faultOf) 38 = .ok (.if_icmp .ne 26, 3) := by decide +kernel
theorem M_faultOf_d49 : decode (zcode M_faultOf) 49 = .ok (.if_icmp .ne 15, 3) := by decide +kernel
theorem M_faultOf_d58 : decode (zcode M_faultOf) 58 = .ok (.invokevirtual 267, 3) := by decide +kernel
theorem M_faultOf_d74 : decode (zcode M_faultOf) 74 = .ok (.invokevirtual 270, 3) := by decide +kernel
theorem M_faultOf_d86 : decode (zcode M_faultOf) 86 = .ok (.ireturn, 1) := by decide +kernel
theorem M_fault_s0 : zseg (zown M_fault) (zcode M_fault) 0 [(.aload_n 0, 1, 0, 0, 0), (.iload_n 1, 1, 0, 0, 0), (.iconst (-1), 1, (-1), 0, 0), (.iconst 5, 1, 5, 0, 0)] 4 = true := by decide +kernel
theorem M_fault_s10 : zseg (zown M_fault) (zcode M_fault) 10 [(.aload_n 0, 1, 0, 0, 0), (.iload_n 2, 1, 0, 0, 0)] 12 = true := by decide +kernel
theorem M_fault_s18 : zseg (zown M_fault) (zcode M_fault) 18 [(.iconst (-1), 1, (-1), 0, 0)] 19 = true := by decide +kernel
theorem M_fault_s20 : zseg (zown M_fault) (zcode M_fault) 20 [(.iload_n 1, 1, 0, 0, 0)] 21 = true := by decide +kernel
theorem M_fault_s24 : zseg (zown M_fault) (zcode M_fault) 24 [(.aload_n 0, 1, 0, 0, 0), (.iload_n 1, 1, 0, 0, 0), (.iload_n 2, 1, 0, 0, 0)] 27 = true := by decide +kernel
theorem M_fault_s31 : zseg (zown M_fault) (zcode M_fault) 31 [(.iconst 0, 1, 0, 0, 0), (.istore_n 3, 1, 0, 0, 0), (.iconst 1, 1, 1, 0, 0), (.istore 4, 2, 0, 0, 0)] 36 = true := by decide +kernel
theorem M_fault_s36 : zseg (zown M_fault) (zcode M_fault) 36 [(.iload 4, 2, 0, 0, 0), (.bipush 6, 2, 6, 0, 0)] 40 = true := by decide +kernel
theorem M_fault_s43 : zseg (zown M_fault) (zcode M_fault) 43 [(.aload_n 0, 1, 0, 0, 0), (.iload 4, 2, 0, 0, 0), (.iload_n 2, 1, 0, 0, 0)] 47 = true := by decide +kernel
theorem M_fault_s50 : zseg (zown M_fault) (zcode M_fault) 50 [(.aload_n 0, 1, 0, 0, 0), (.iload_n 3, 1, 0, 0, 0), (.iload_n 2, 1, 0, 0, 0)] 53 = true := by decide +kernel
theorem M_fault_s59 : zseg (zown M_fault) (zcode M_fault) 59 [(.iload 4, 2, 0, 0, 0), (.istore_n 3, 1, 0, 0, 0), (.iinc 4 1, 3, 1, 0, 0), (.goto (-29), 3, 0, 0, 0)] 36 = true := by decide +kernel
theorem M_fault_s62 : zseg (zown M_fault) (zcode M_fault) 62 [(.iinc 4 1, 3, 1, 0, 0), (.goto (-29), 3, 0, 0, 0)] 36 = true := by decide +kernel
theorem M_fault_s68 : zseg (zown M_fault) (zcode M_fault) 68 [(.iload_n 3, 1, 0, 0, 0)] 69 = true := by decide +kernel
theorem M_fault_d4 : decode (zcode M_fault) 4 = .ok (.invokevirtual 112, 3) := by decide +kernel
theorem M_fault_d7 : decode (zcode M_fault) 7 = .ok (.ifCond .eq 11, 3) := by decide +kernel
theorem M_fault_d12 : decode (zcode M_fault) 12 = .ok (.invokevirtual 256, 3) := by decide +kernel
theorem M_fault_d15 : decode (zcode M_fault) 15 = .ok (.ifCond .ne 5, 3) := by decide +kernel
theorem M_fault_d19 : decode (zcode M_fault) 19 = .ok (.ireturn, 1) := by decide +kernel
theorem M_fault_d21 : decode (zcode M_fault) 21 = .ok (.ifCond .lt 10, 3) := by decide +kernel
theorem M_fault_d27 : decode (zcode M_fault) 27 = .ok (.invokevirtual 294, 3) := by decide +kernel
theorem M_fault_d30 : decode (zcode M_fault) 30 = .ok (.ireturn, 1) := by decide +kernel
theorem M_fault_d40 : decode (zcode M_fault) 40 = .ok (.if_icmp .ge 28, 3) := by decide +kernel
theorem M_fault_d47 : decode (zcode M_fault) 47 = .ok (.invokevirtual 294, 3) := by decide +kernel
theorem M_fault_d53 : decode (zcode M_fault) 53 = .ok (.invokevirtual 294, 3) := by decide +kernel
theorem M_fault_d56 : decode (zcode M_fault) 56 = .ok (.if_icmp .le 6, 3) := by decide +kernel
theorem M_fault_d69 : decode (zcode M_fault) 69 = .ok (.ireturn, 1) := by decide +kernel
theorem M_isPure_s0 : zseg (zown M_isPure) (zcode M_isPure) 0 [(.iconst 0, 1, 0, 0, 0), (.istore 4, 2, 0, 0, 0)] 3 = true := by decide +kernel
theorem M_isPure_s3 : zseg (zown M_isPure) (zcode M_isPure) 3 [(.iload 4, 2, 0, 0, 0), (.aload_n 0, 1, 0, 0, 0), (.getfield 106, 3, 0, 11, 0)] 9 = true := by decide +kernel
theorem M_isPure_s12 : zseg (zown M_isPure) (zcode M_isPure) 12 [(.iconst 0, 1, 0, 0, 0), (.istore 5, 2, 0, 0, 0), (.iconst 0, 1, 0, 0, 0), (.istore 6, 2, 0, 0, 0)] 18 = true := by decide +kernel
theorem M_isPure_s18 : zseg (zown M_isPure) (zcode M_isPure) 18 [(.iload 6, 2, 0, 0, 0), (.aload_n 0, 1, 0, 0, 0), (.getfield 109, 3, 0, 11, 1)] 24 = true := by decide +kernel
theorem M_isPure_s27 : zseg (zown M_isPure) (zcode M_isPure) 27 [(.aload_n 0, 1, 0, 0, 0), (.getfield 20, 3, 0, 11, 11), (.iload 6, 2, 0, 0, 0), (.iaload, 1, 0, 0, 0), (.iload 4, 2, 0, 0, 0)] 36 = true := by decide +kernel
theorem M_isPure_s39 : zseg (zown M_isPure) (zcode M_isPure) 39 [(.iload 5, 2, 0, 0, 0), (.aload_n 0, 1, 0, 0, 0), (.iload_n 1, 1, 0, 0, 0), (.iload 6, 2, 0, 0, 0)] 45 = true := by decide +kernel
theorem M_isPure_s51 : zseg (zown M_isPure) (zcode M_isPure) 51 [(.aload_n 0, 1, 0, 0, 0), (.iload 6, 2, 0, 0, 0), (.iload 4, 2, 0, 0, 0), (.iconst 1, 1, 1, 0, 0), (.iconst 0, 1, 0, 0, 0), (.iload_n 3, 1, 0, 0, 0)] 59 = true := by decide +kernel
theorem M_isPure_s62 : zseg (zown M_isPure) (zcode M_isPure) 62 [(.goto 13, 3, 0, 0, 0), (.iadd, 1, 0, 0, 0), (.istore 5, 2, 0, 0, 0), (.iinc 6 1, 3, 1, 0, 0), (.goto (-63), 3, 0, 0, 0)] 18 = true := by decide +kernel
theorem M_isPure_s65 : zseg (zown M_isPure) (zcode M_isPure) 65 [(.aload_n 0, 1, 0, 0, 0), (.iload 6, 2, 0, 0, 0), (.iload 4, 2, 0, 0, 0), (.iload_n 2, 1, 0, 0, 0), (.iload_n 3, 1, 0, 0, 0)] 72 = true := by decide +kernel
theorem M_isPure_s75 : zseg (zown M_isPure) (zcode M_isPure) 75 [(.iadd, 1, 0, 0, 0), (.istore 5, 2, 0, 0, 0), (.iinc 6 1, 3, 1, 0, 0), (.goto (-63), 3, 0, 0, 0)] 18 = true := by decide +kernel
theorem M_isPure_s78 : zseg (zown M_isPure) (zcode M_isPure) 78 [(.iinc 6 1, 3, 1, 0, 0), (.goto (-63), 3, 0, 0, 0)] 18 = true := by decide +kernel
theorem M_isPure_s84 : zseg (zown M_isPure) (zcode M_isPure) 84 [(.iload 5, 2, 0, 0, 0)] 86 = true := by decide +kernel
theorem M_isPure_s89 : zseg (zown M_isPure) (zcode M_isPure) 89 [(.iconst 0, 1, 0, 0, 0)] 90 = true := by decide +kernel
theorem M_isPure_s91 : zseg (zown M_isPure) (zcode M_isPure) 91 [(.iinc 4 1, 3, 1, 0, 0), (.goto (-91), 3, 0, 0, 0)] 3 = true := by decide +kernel
theorem M_isPure_s97 : zseg (zown M_isPure) (zcode M_isPure) 97 [(.iconst 1, 1, 1, 0, 0)] 98 = true := by decide +kernel
theorem M_isPure_d9 : decode (zcode M_isPure) 9 = .ok (.if_icmp .ge 88, 3) := by decide +kernel
theorem M_isPure_d24 : decode (zcode M_isPure) 24 = .ok (.if_icmp .ge 60, 3) := by decide +kernel
theorem M_isPure_d36 : decode (zcode M_isPure) 36 = .ok (.if_icmp .ne 42, 3) := by decide +kernel
theorem M_isPure_d45 : decode (zcode M_isPure) 45 = .ok (.invokevirtual 291, 3) := by decide +kernel
theorem M_isPure_d48 : decode (zcode M_isPure) 48 = .ok (.ifCond .eq 17, 3) := by decide +kernel
theorem M_isPure_d59 : decode (zcode M_isPure) 59 = .ok (.invokevirtual 252, 3) := by decide +kernel
theorem M_isPure_d72 : decode (zcode M_isPure) 72 = .ok (.invokevirtual 259, 3) := by decide +kernel
theorem M_isPure_d86 : decode (zcode M_isPure) 86 = .ok (.ifCond .eq 5, 3) := by decide +kernel
theorem M_isPure_d90 : decode (zcode M_isPure) 90 = .ok (.ireturn, 1) := by decide +kernel
theorem M_isPure_d98 : decode (zcode M_isPure) 98 = .ok (.ireturn, 1) := by decide +kernel
theorem M_win_s0 : zseg (zown M_win) (zcode M_win) 0 [(.aload_n 0, 1, 0, 0, 0), (.iload_n 1, 1, 0, 0, 0)] 2 = true := by decide +kernel
theorem M_win_s8 : zseg (zown M_win) (zcode M_win) 8 [(.aload_n 0, 1, 0, 0, 0), (.iload_n 2, 1, 0, 0, 0), (.iconst 0, 1, 0, 0, 0), (.iconst 1, 1, 1, 0, 0)] 12 = true := by decide +kernel
theorem M_win_s18 : zseg (zown M_win) (zcode M_win) 18 [(.iconst (-1), 1, (-1), 0, 0)] 19 = true := by decide +kernel
theorem M_win_s20 : zseg (zown M_win) (zcode M_win) 20 [(.iload_n 1, 1, 0, 0, 0), (.bipush 100, 2, 100, 0, 0), (.idiv, 1, 0, 0, 0), (.istore_n 3, 1, 0, 0, 0), (.iconst 0, 1, 0, 0, 0), (.istore 4, 2, 0, 0, 0), (.bipush (-2), 2, (-2), 0, 0), (.istore 5, 2, 0, 0, 0), (.iconst 0, 1, 0, 0, 0), (.istore 6, 2, 0, 0, 0)] 35 = true := by decide +kernel
theorem M_win_s35 : zseg (zown M_win) (zcode M_win) 35 [(.iload 6, 2, 0, 0, 0), (.aload_n 0, 1, 0, 0, 0), (.getfield 109, 3, 0, 11, 1)] 41 = true := by decide +kernel
theorem M_win_s44 : zseg (zown M_win) (zcode M_win) 44 [(.aload_n 0, 1, 0, 0, 0), (.iload 6, 2, 0, 0, 0), (.iload_n 3, 1, 0, 0, 0)] 48 = true := by decide +kernel
theorem M_win_s54 : zseg (zown M_win) (zcode M_win) 54 [(.iload 4, 2, 0, 0, 0), (.iconst 1, 1, 1, 0, 0), (.iload 6, 2, 0, 0, 0), (.ishl, 1, 0, 0, 0), (.ior, 1, 0, 0, 0), (.istore 4, 2, 0, 0, 0), (.iinc 6 1, 3, 1, 0, 0), (.goto (-31), 3, 0, 0, 0)] 35 = true := by decide +kernel
theorem M_win_s63 : zseg (zown M_win) (zcode M_win) 63 [(.iinc 6 1, 3, 1, 0, 0), (.goto (-31), 3, 0, 0, 0)] 35 = true := by decide +kernel
theorem M_win_s69 : zseg (zown M_win) (zcode M_win) 69 [(.iconst 0, 1, 0, 0, 0), (.istore 6, 2, 0, 0, 0)] 72 = true := by decide +kernel
theorem M_win_s72 : zseg (zown M_win) (zcode M_win) 72 [(.iload 6, 2, 0, 0, 0), (.iconst 1, 1, 1, 0, 0), (.aload_n 0, 1, 0, 0, 0), (.getfield 109, 3, 0, 11, 1), (.ishl, 1, 0, 0, 0)] 80 = true := by decide +kernel
theorem M_win_s83 : zseg (zown M_win) (zcode M_win) 83 [(.iload 6, 2, 0, 0, 0), (.iload 4, 2, 0, 0, 0), (.iconst (-1), 1, (-1), 0, 0), (.ixor, 1, 0, 0, 0), (.iand, 1, 0, 0, 0)] 90 = true := by decide +kernel
theorem M_win_s93 : zseg (zown M_win) (zcode M_win) 93 [(.iload 5, 2, 0, 0, 0), (.bipush (-2), 2, (-2), 0, 0)] 97 = true := by decide +kernel
theorem M_win_s100 : zseg (zown M_win) (zcode M_win) 100 [(.aload_n 0, 1, 0, 0, 0), (.iload 6, 2, 0, 0, 0)] 103 = true := by decide +kernel
theorem M_win_s106 : zseg (zown M_win) (zcode M_win) 106 [(.aload_n 0, 1, 0, 0, 0), (.iload 5, 2, 0, 0, 0)] 109 = true := by decide +kernel
theorem M_win_s115 : zseg (zown M_win) (zcode M_win) 115 [(.goto 21, 3, 0, 0, 0), (.iinc 6 1, 3, 1, 0, 0), (.goto (-67), 3, 0, 0, 0)] 72 = true := by decide +kernel
theorem M_win_s118 : zseg (zown M_win) (zcode M_win) 118 [(.aload_n 0, 1, 0, 0, 0), (.iload 6, 2, 0, 0, 0), (.iload_n 3, 1, 0, 0, 0), (.iload_n 1, 1, 0, 0, 0), (.bipush 100, 2, 100, 0, 0), (.irem, 1, 0, 0, 0)] 126 = true := by decide +kernel
theorem M_win_s132 : zseg (zown M_win) (zcode M_win) 132 [(.iload 6, 2, 0, 0, 0), (.istore 5, 2, 0, 0, 0), (.iinc 6 1, 3, 1, 0, 0), (.goto (-67), 3, 0, 0, 0)] 72 = true := by decide +kernel
theorem M_win_s136 : zseg (zown M_win) (zcode M_win) 136 [(.iinc 6 1, 3, 1, 0, 0), (.goto (-67), 3, 0, 0, 0)] 72 = true := by decide +kernel
theorem M_win_s142 : zseg (zown M_win) (zcode M_win) 142 [(.iload_n 2, 1, 0, 0, 0), (.iconst 1, 1, 1, 0, 0)] 144 = true := by decide +kernel
theorem M_win_s147 : zseg (zown M_win) (zcode M_win) 147 [(.iload 5, 2, 0, 0, 0), (.bipush (-2), 2, (-2), 0, 0)] 151 = true := by decide +kernel
theorem M_win_s154 : zseg (zown M_win) (zcode M_win) 154 [(.iload 5, 2, 0, 0, 0), (.goto 9, 3, 0, 0, 0)] 165 = true := by decide +kernel
theorem M_win_s159 : zseg (zown M_win) (zcode M_win) 159 [(.aload_n 0, 1, 0, 0, 0), (.iload 5, 2, 0, 0, 0)] 162 = true := by decide +kernel
theorem M_win_d2 : decode (zcode M_win) 2 = .ok (.invokevirtual 256, 3) := by decide +kernel
theorem M_win_d5 : decode (zcode M_win) 5 = .ok (.ifCond .eq 13, 3) := by decide +kernel
theorem M_win_d12 : decode (zcode M_win) 12 = .ok (.invokevirtual 112, 3) := by decide +kernel
theorem M_win_d15 : decode (zcode M_win) 15 = .ok (.ifCond .ne 5, 3) := by decide +kernel
theorem M_win_d19 : decode (zcode M_win) 19 = .ok (.ireturn, 1) := by decide +kernel
theorem M_win_d41 : decode (zcode M_win) 41 = .ok (.if_icmp .ge 28, 3) := by decide +kernel
theorem M_win_d48 : decode (zcode M_win) 48 = .ok (.invokevirtual 164, 3) := by decide +kernel
theorem M_win_d51 : decode (zcode M_win) 51 = .ok (.ifCond .ne 12, 3) := by decide +kernel
theorem M_win_d80 : decode (zcode M_win) 80 = .ok (.if_icmp .ge 62, 3) := by decide +kernel
theorem M_win_d90 : decode (zcode M_win) 90 = .ok (.ifCond .ne 46, 3) := by decide +kernel
theorem M_win_d97 : decode (zcode M_win) 97 = .ok (.if_icmp .eq 21, 3) := by decide +kernel
theorem M_win_d103 : decode (zcode M_win) 103 = .ok (.invokevirtual 297, 3) := by decide +kernel
theorem M_win_d109 : decode (zcode M_win) 109 = .ok (.invokevirtual 297, 3) := by decide +kernel
theorem M_win_d112 : decode (zcode M_win) 112 = .ok (.if_icmp .lt 6, 3) := by decide +kernel
theorem M_win_d126 : decode (zcode M_win) 126 = .ok (.invokevirtual 300, 3) := by decide +kernel
theorem M_win_d129 : decode (zcode M_win) 129 = .ok (.ifCond .eq 7, 3) := by decide +kernel
theorem M_win_d144 : decode (zcode M_win) 144 = .ok (.if_icmp .eq 10, 3) := by decide +kernel
theorem M_win_d151 : decode (zcode M_win) 151 = .ok (.if_icmp .ne 8, 3) := by decide +kernel
theorem M_win_d165 : decode (zcode M_win) 165 = .ok (.ireturn, 1) := by decide +kernel
theorem M_win_d162 : decode (zcode M_win) 162 = .ok (.invokevirtual 297, 3) := by decide +kernel
theorem M_silent_s0 : zseg (zown M_silent) (zcode M_silent) 0 [(.aload_n 0, 1, 0, 0, 0), (.iload_n 1, 1, 0, 0, 0), (.iconst 0, 1, 0, 0, 0), (.bipush 23, 2, 23, 0, 0)] 5 = true := by decide +kernel
theorem M_silent_s11 : zseg (zown M_silent) (zcode M_silent) 11 [(.aload_n 0, 1, 0, 0, 0), (.iload_n 2, 1, 0, 0, 0), (.iconst 0, 1, 0, 0, 0), (.bipush 99, 2, 99, 0, 0)] 16 = true := by decide +kernel
theorem M_silent_s22 : zseg (zown M_silent) (zcode M_silent) 22 [(.iconst (-1), 1, (-1), 0, 0)] 23 = true := by decide +kernel
theorem M_silent_s24 : zseg (zown M_silent) (zcode M_silent) 24 [(.iconst 0, 1, 0, 0, 0), (.istore_n 3, 1, 0, 0, 0), (.iconst 0, 1, 0, 0, 0), (.istore 4, 2, 0, 0, 0)] 29 = true := by decide +kernel
theorem M_silent_s29 : zseg (zown M_silent) (zcode M_silent) 29 [(.iload 4, 2, 0, 0, 0), (.aload_n 0, 1, 0, 0, 0), (.getfield 109, 3, 0, 11, 1)] 35 = true := by decide +kernel
theorem M_silent_s38 : zseg (zown M_silent) (zcode M_silent) 38 [(.aload_n 0, 1, 0, 0, 0), (.iload 4, 2, 0, 0, 0), (.aload_n 0, 1, 0, 0, 0), (.getfield 20, 3, 0, 11, 11), (.iload 4, 2, 0, 0, 0), (.iaload, 1, 0, 0, 0), (.iconst 1, 1, 1, 0, 0), (.iconst 0, 1, 0, 0, 0), (.iload_n 1, 1, 0, 0, 0)] 51 = true := by decide +kernel
theorem M_silent_s54 : zseg (zown M_silent) (zcode M_silent) 54 [(.aload_n 0, 1, 0, 0, 0), (.iload 4, 2, 0, 0, 0), (.aload_n 0, 1, 0, 0, 0), (.getfield 20, 3, 0, 11, 11), (.iload 4, 2, 0, 0, 0), (.iaload, 1, 0, 0, 0), (.iconst 0, 1, 0, 0, 0), (.iload_n 2, 1, 0, 0, 0), (.iload_n 1, 1, 0, 0, 0)] 67 = true := by decide +kernel
theorem M_silent_s73 : zseg (zown M_silent) (zcode M_silent) 73 [(.iload_n 3, 1, 0, 0, 0), (.iconst 1, 1, 1, 0, 0), (.iload 4, 2, 0, 0, 0), (.ishl, 1, 0, 0, 0), (.ior, 1, 0, 0, 0), (.istore_n 3, 1, 0, 0, 0), (.iinc 4 1, 3, 1, 0, 0), (.goto (-54), 3, 0, 0, 0)] 29 = true := by decide +kernel
theorem M_silent_s80 : zseg (zown M_silent) (zcode M_silent) 80 [(.iinc 4 1, 3, 1, 0, 0), (.goto (-54), 3, 0, 0, 0)] 29 = true := by decide +kernel
theorem M_silent_s86 : zseg (zown M_silent) (zcode M_silent) 86 [(.iload_n 3, 1, 0, 0, 0)] 87 = true := by decide +kernel
theorem M_silent_d5 : decode (zcode M_silent) 5 = .ok (.invokevirtual 112, 3) := by decide +kernel
theorem M_silent_d8 : decode (zcode M_silent) 8 = .ok (.ifCond .eq 14, 3) := by decide +kernel
theorem M_silent_d16 : decode (zcode M_silent) 16 = .ok (.invokevirtual 112, 3) := by decide +kernel
theorem M_silent_d19 : decode (zcode M_silent) 19 = .ok (.ifCond .ne 5, 3) := by decide +kernel
theorem M_silent_d23 : decode (zcode M_silent) 23 = .ok (.ireturn, 1) := by decide +kernel
theorem M_silent_d35 : decode (zcode M_silent) 35 = .ok (.if_icmp .ge 51, 3) := by decide +kernel
theorem M_silent_d51 : decode (zcode M_silent) 51 = .ok (.invokevirtual 252, 3) := by decide +kernel
theorem M_silent_d67 : decode (zcode M_silent) 67 = .ok (.invokevirtual 252, 3) := by decide +kernel
theorem M_silent_d70 : decode (zcode M_silent) 70 = .ok (.if_icmp .ne 10, 3) := by decide +kernel
theorem M_silent_d87 : decode (zcode M_silent) 87 = .ok (.ireturn, 1) := by decide +kernel
theorem M_isHeardTime_s0 : zseg (zown M_isHeardTime) (zcode M_isHeardTime) 0 [(.iload_n 1, 1, 0, 0, 0)] 1 = true := by decide +kernel
theorem M_isHeardTime_s4 : zseg (zown M_isHeardTime) (zcode M_isHeardTime) 4 [(.iload_n 1, 1, 0, 0, 0), (.bipush 100, 2, 100, 0, 0), (.idiv, 1, 0, 0, 0), (.bipush 24, 2, 24, 0, 0)] 10 = true := by decide +kernel
theorem M_isHeardTime_s13 : zseg (zown M_isHeardTime) (zcode M_isHeardTime) 13 [(.iconst 1, 1, 1, 0, 0), (.goto 4, 3, 0, 0, 0)] 18 = true := by decide +kernel
theorem M_isHeardTime_s17 : zseg (zown M_isHeardTime) (zcode M_isHeardTime) 17 [(.iconst 0, 1, 0, 0, 0)] 18 = true := by decide +kernel
theorem M_isHeardTime_d1 : decode (zcode M_isHeardTime) 1 = .ok (.ifCond .lt 16, 3) := by decide +kernel
theorem M_isHeardTime_d10 : decode (zcode M_isHeardTime) 10 = .ok (.if_icmp .ge 7, 3) := by decide +kernel
theorem M_isHeardTime_d18 : decode (zcode M_isHeardTime) 18 = .ok (.ireturn, 1) := by decide +kernel
theorem M_ofBell_s0 : zseg (zown M_ofBell) (zcode M_ofBell) 0 [(.iconst 0, 1, 0, 0, 0), (.istore_n 2, 1, 0, 0, 0), (.iconst 0, 1, 0, 0, 0), (.istore_n 3, 1, 0, 0, 0)] 4 = true := by decide +kernel
theorem M_ofBell_s4 : zseg (zown M_ofBell) (zcode M_ofBell) 4 [(.iload_n 3, 1, 0, 0, 0), (.aload_n 0, 1, 0, 0, 0), (.getfield 109, 3, 0, 11, 1)] 9 = true := by decide +kernel
theorem M_ofBell_s12 : zseg (zown M_ofBell) (zcode M_ofBell) 12 [(.aload_n 0, 1, 0, 0, 0), (.getfield 20, 3, 0, 11, 11), (.iload_n 3, 1, 0, 0, 0), (.iaload, 1, 0, 0, 0), (.iload_n 1, 1, 0, 0, 0)] 19 = true := by decide +kernel
theorem M_ofBell_s22 : zseg (zown M_ofBell) (zcode M_ofBell) 22 [(.iload_n 2, 1, 0, 0, 0), (.iconst 1, 1, 1, 0, 0), (.iload_n 3, 1, 0, 0, 0), (.ishl, 1, 0, 0, 0), (.ior, 1, 0, 0, 0), (.istore_n 2, 1, 0, 0, 0), (.iinc 3 1, 3, 1, 0, 0), (.goto (-27), 3, 0, 0, 0)] 4 = true := by decide +kernel
theorem M_ofBell_s28 : zseg (zown M_ofBell) (zcode M_ofBell) 28 [(.iinc 3 1, 3, 1, 0, 0), (.goto (-27), 3, 0, 0, 0)] 4 = true := by decide +kernel
theorem M_ofBell_s34 : zseg (zown M_ofBell) (zcode M_ofBell) 34 [(.iload_n 2, 1, 0, 0, 0)] 35 = true := by decide +kernel
theorem M_ofBell_d9 : decode (zcode M_ofBell) 9 = .ok (.if_icmp .ge 25, 3) := by decide +kernel
theorem M_ofBell_d19 : decode (zcode M_ofBell) 19 = .ok (.if_icmp .ne 9, 3) := by decide +kernel
theorem M_ofBell_d35 : decode (zcode M_ofBell) 35 = .ok (.ireturn, 1) := by decide +kernel
theorem M_givesAll_s0 : zseg (zown M_givesAll) (zcode M_givesAll) 0 [(.iconst 0, 1, 0, 0, 0), (.istore_n 2, 1, 0, 0, 0)] 2 = true := by decide +kernel
theorem M_givesAll_s2 : zseg (zown M_givesAll) (zcode M_givesAll) 2 [(.iload_n 2, 1, 0, 0, 0), (.aload_n 0, 1, 0, 0, 0), (.getfield 109, 3, 0, 11, 1)] 7 = true := by decide +kernel
theorem M_givesAll_s10 : zseg (zown M_givesAll) (zcode M_givesAll) 10 [(.aload_n 0, 1, 0, 0, 0), (.getfield 56, 3, 0, 11, 28), (.iload_n 2, 1, 0, 0, 0), (.aload_n 0, 1, 0, 0, 0), (.iload_n 2, 1, 0, 0, 0), (.aload_n 0, 1, 0, 0, 0), (.getfield 20, 3, 0, 11, 11), (.iload_n 2, 1, 0, 0, 0), (.iaload, 1, 0, 0, 0), (.iconst 1, 1, 1, 0, 0), (.iconst 0, 1, 0, 0, 0), (.iload_n 1, 1, 0, 0, 0), (.bipush 100, 2, 100, 0, 0), (.idiv, 1, 0, 0, 0)] 29 = true := by decide +kernel
theorem M_givesAll_s32 : zseg (zown M_givesAll) (zcode M_givesAll) 32 [(.iastore, 1, 0, 0, 0), (.aload_n 0, 1, 0, 0, 0), (.getfield 59, 3, 0, 11, 29), (.iload_n 2, 1, 0, 0, 0), (.aload_n 0, 1, 0, 0, 0), (.iload_n 2, 1, 0, 0, 0), (.aload_n 0, 1, 0, 0, 0), (.getfield 20, 3, 0, 11, 11), (.iload_n 2, 1, 0, 0, 0), (.iaload, 1, 0, 0, 0), (.iconst 0, 1, 0, 0, 0), (.iload_n 1, 1, 0, 0, 0), (.bipush 100, 2, 100, 0, 0), (.irem, 1, 0, 0, 0), (.iload_n 1, 1, 0, 0, 0), (.bipush 100, 2, 100, 0, 0), (.idiv, 1, 0, 0, 0)] 55 = true := by decide +kernel
theorem M_givesAll_s58 : zseg (zown M_givesAll) (zcode M_givesAll) 58 [(.iastore, 1, 0, 0, 0), (.iinc 2 1, 3, 1, 0, 0), (.goto (-60), 3, 0, 0, 0)] 2 = true := by decide +kernel
theorem M_givesAll_d7 : decode (zcode M_givesAll) 7 = .ok (.if_icmp .ge 58, 3) := by decide +kernel
theorem M_givesAll_d29 : decode (zcode M_givesAll) 29 = .ok (.invokevirtual 252, 3) := by decide +kernel
theorem M_givesAll_d55 : decode (zcode M_givesAll) 55 = .ok (.invokevirtual 252, 3) := by decide +kernel
theorem M_givesAll_d65 : decode (zcode M_givesAll) 65 = .ok (.return_, 1) := by decide +kernel
theorem M_pitchBy_s0 : zseg (zown M_pitchBy) (zcode M_pitchBy) 0 [(.aload_n 0, 1, 0, 0, 0), (.getfield 13, 3, 0, 11, 9), (.iload_n 1, 1, 0, 0, 0), (.iaload, 1, 0, 0, 0), (.istore_n 3, 1, 0, 0, 0), (.iconst 0, 1, 0, 0, 0), (.istore 4, 2, 0, 0, 0)] 10 = true := by decide +kernel
theorem M_pitchBy_s10 : zseg (zown M_pitchBy) (zcode M_pitchBy) 10 [(.iload 4, 2, 0, 0, 0), (.aload_n 0, 1, 0, 0, 0), (.getfield 109, 3, 0, 11, 1)] 16 = true := by decide +kernel
theorem M_pitchBy_s19 : zseg (zown M_pitchBy) (zcode M_pitchBy) 19 [(.aload_n 0, 1, 0, 0, 0), (.getfield 20, 3, 0, 11, 11), (.iload 4, 2, 0, 0, 0), (.iaload, 1, 0, 0, 0), (.iload_n 1, 1, 0, 0, 0)] 27 = true := by decide +kernel
theorem M_pitchBy_s30 : zseg (zown M_pitchBy) (zcode M_pitchBy) 30 [(.iload_n 3, 1, 0, 0, 0), (.aload_n 0, 1, 0, 0, 0), (.iload_n 2, 1, 0, 0, 0), (.iload 4, 2, 0, 0, 0)] 35 = true := by decide +kernel
theorem M_pitchBy_s41 : zseg (zown M_pitchBy) (zcode M_pitchBy) 41 [(.aload_n 0, 1, 0, 0, 0), (.getfield 59, 3, 0, 11, 29), (.iload 4, 2, 0, 0, 0), (.iaload, 1, 0, 0, 0), (.goto 10, 3, 0, 0, 0), (.iadd, 1, 0, 0, 0), (.istore_n 3, 1, 0, 0, 0), (.iinc 4 1, 3, 1, 0, 0), (.goto (-53), 3, 0, 0, 0)] 10 = true := by decide +kernel
theorem M_pitchBy_s51 : zseg (zown M_pitchBy) (zcode M_pitchBy) 51 [(.aload_n 0, 1, 0, 0, 0), (.getfield 56, 3, 0, 11, 28), (.iload 4, 2, 0, 0, 0), (.iaload, 1, 0, 0, 0), (.iadd, 1, 0, 0, 0), (.istore_n 3, 1, 0, 0, 0), (.iinc 4 1, 3, 1, 0, 0), (.goto (-53), 3, 0, 0, 0)] 10 = true := by decide +kernel
theorem M_pitchBy_s60 : zseg (zown M_pitchBy) (zcode M_pitchBy) 60 [(.iinc 4 1, 3, 1, 0, 0), (.goto (-53), 3, 0, 0, 0)] 10 = true := by decide +kernel
theorem M_pitchBy_s66 : zseg (zown M_pitchBy) (zcode M_pitchBy) 66 [(.iload_n 3, 1, 0, 0, 0)] 67 = true := by decide +kernel
theorem M_pitchBy_d16 : decode (zcode M_pitchBy) 16 = .ok (.if_icmp .ge 50, 3) := by decide +kernel
theorem M_pitchBy_d27 : decode (zcode M_pitchBy) 27 = .ok (.if_icmp .ne 33, 3) := by decide +kernel
theorem M_pitchBy_d35 : decode (zcode M_pitchBy) 35 = .ok (.invokevirtual 291, 3) := by decide +kernel
theorem M_pitchBy_d38 : decode (zcode M_pitchBy) 38 = .ok (.ifCond .eq 13, 3) := by decide +kernel
theorem M_pitchBy_d67 : decode (zcode M_pitchBy) 67 = .ok (.ireturn, 1) := by decide +kernel
theorem M_heard_s0 : zseg (zown M_heard) (zcode M_heard) 0 [(.aload_n 0, 1, 0, 0, 0), (.iload_n 1, 1, 0, 0, 0)] 2 = true := by decide +kernel
theorem M_heard_s8 : zseg (zown M_heard) (zcode M_heard) 8 [(.aload_n 0, 1, 0, 0, 0), (.iload_n 3, 1, 0, 0, 0)] 10 = true := by decide +kernel
theorem M_heard_s16 : zseg (zown M_heard) (zcode M_heard) 16 [(.aload_n 0, 1, 0, 0, 0), (.iload 4, 2, 0, 0, 0), (.iconst 0, 1, 0, 0, 0), (.iconst 3, 1, 3, 0, 0)] 21 = true := by decide +kernel
theorem M_heard_s27 : zseg (zown M_heard) (zcode M_heard) 27 [(.iconst (-1), 1, (-1), 0, 0)] 28 = true := by decide +kernel
theorem M_heard_s29 : zseg (zown M_heard) (zcode M_heard) 29 [(.aload_n 0, 1, 0, 0, 0), (.iload_n 3, 1, 0, 0, 0)] 31 = true := by decide +kernel
theorem M_heard_s34 : zseg (zown M_heard) (zcode M_heard) 34 [(.aload_n 0, 1, 0, 0, 0), (.iload_n 1, 1, 0, 0, 0)] 36 = true := by decide +kernel
theorem M_heard_s39 : zseg (zown M_heard) (zcode M_heard) 39 [(.istore 5, 2, 0, 0, 0), (.iconst 0, 1, 0, 0, 0), (.istore 6, 2, 0, 0, 0), (.iload 5, 2, 0, 0, 0), (.istore 7, 2, 0, 0, 0), (.iload 5, 2, 0, 0, 0), (.istore 8, 2, 0, 0, 0), (.bipush (-2), 2, (-2), 0, 0), (.istore 9, 2, 0, 0, 0), (.iconst 0, 1, 0, 0, 0), (.istore 10, 2, 0, 0, 0)] 59 = true := by decide +kernel
theorem M_heard_s59 : zseg (zown M_heard) (zcode M_heard) 59 [(.iload 10, 2, 0, 0, 0), (.iconst 1, 1, 1, 0, 0), (.aload_n 0, 1, 0, 0, 0), (.getfield 109, 3, 0, 11, 1), (.ishl, 1, 0, 0, 0)] 67 = true := by decide +kernel
theorem M_heard_s70 : zseg (zown M_heard) (zcode M_heard) 70 [(.iload 10, 2, 0, 0, 0), (.iload 5, 2, 0, 0, 0), (.iconst (-1), 1, (-1), 0, 0), (.ixor, 1, 0, 0, 0), (.iand, 1, 0, 0, 0)] 77 = true := by decide +kernel
theorem M_heard_s80 : zseg (zown M_heard) (zcode M_heard) 80 [(.aload_n 0, 1, 0, 0, 0), (.iload_n 1, 1, 0, 0, 0), (.iload 10, 2, 0, 0, 0)] 84 = true := by decide +kernel
theorem M_heard_s87 : zseg (zown M_heard) (zcode M_heard) 87 [(.iload_n 2, 1, 0, 0, 0)] 88 = true := by decide +kernel
theorem M_heard_s91 : zseg (zown M_heard) (zcode M_heard) 91 [(.goto 38, 3, 0, 0, 0), (.iinc 10 1, 3, 1, 0, 0), (.goto (-73), 3, 0, 0, 0)] 59 = true := by decide +kernel
theorem M_heard_s94 : zseg (zown M_heard) (zcode M_heard) 94 [(.iload 9, 2, 0, 0, 0), (.bipush (-2), 2, (-2), 0, 0)] 98 = true := by decide +kernel
theorem M_heard_s101 : zseg (zown M_heard) (zcode M_heard) 101 [(.iload 10, 2, 0, 0, 0), (.goto 5, 3, 0, 0, 0), (.istore 9, 2, 0, 0, 0), (.iload 7, 2, 0, 0, 0), (.iload 10, 2, 0, 0, 0), (.iand, 1, 0, 0, 0), (.istore 7, 2, 0, 0, 0), (.iload 8, 2, 0, 0, 0), (.iload 10, 2, 0, 0, 0), (.iconst (-1), 1, (-1), 0, 0), (.ixor, 1, 0, 0, 0), (.iand, 1, 0, 0, 0), (.istore 8, 2, 0, 0, 0), (.iinc 6 1, 3, 1, 0, 0), (.iinc 10 1, 3, 1, 0, 0), (.goto (-73), 3, 0, 0, 0)] 59 = true := by decide +kernel
theorem M_heard_s106 : zseg (zown M_heard) (zcode M_heard) 106 [(.iload 9, 2, 0, 0, 0), (.istore 9, 2, 0, 0, 0), (.iload 7, 2, 0, 0, 0), (.iload 10, 2, 0, 0, 0), (.iand, 1, 0, 0, 0), (.istore 7, 2, 0, 0, 0), (.iload 8, 2, 0, 0, 0), (.iload 10, 2, 0, 0, 0), (.iconst (-1), 1, (-1), 0, 0), (.ixor, 1, 0, 0, 0), (.iand, 1, 0, 0, 0), (.istore 8, 2, 0, 0, 0), (.iinc 6 1, 3, 1, 0, 0), (.iinc 10 1, 3, 1, 0, 0), (.goto (-73), 3, 0, 0, 0)] 59 = true := by decide +kernel
theorem M_heard_s129 : zseg (zown M_heard) (zcode M_heard) 129 [(.iinc 10 1, 3, 1, 0, 0), (.goto (-73), 3, 0, 0, 0)] 59 = true := by decide +kernel
theorem M_heard_s135 : zseg (zown M_heard) (zcode M_heard) 135 [(.iload 4, 2, 0, 0, 0)] 137 = true := by decide +kernel
theorem M_heard_s140 : zseg (zown M_heard) (zcode M_heard) 140 [(.iload 6, 2, 0, 0, 0)] 142 = true := by decide +kernel
theorem M_heard_s143 : zseg (zown M_heard) (zcode M_heard) 143 [(.iload 6, 2, 0, 0, 0)] 145 = true := by decide +kernel
theorem M_heard_s148 : zseg (zown M_heard) (zcode M_heard) 148 [(.bipush (-2), 2, (-2), 0, 0), (.goto 27, 3, 0, 0, 0)] 177 = true := by decide +kernel
theorem M_heard_s153 : zseg (zown M_heard) (zcode M_heard) 153 [(.iload 4, 2, 0, 0, 0), (.iconst 1, 1, 1, 0, 0)] 156 = true := by decide +kernel
theorem M_heard_s159 : zseg (zown M_heard) (zcode M_heard) 159 [(.iload 7, 2, 0, 0, 0), (.goto 16, 3, 0, 0, 0)] 177 = true := by decide +kernel
theorem M_heard_s164 : zseg (zown M_heard) (zcode M_heard) 164 [(.iload 4, 2, 0, 0, 0), (.iconst 2, 1, 2, 0, 0)] 167 = true := by decide +kernel
theorem M_heard_s170 : zseg (zown M_heard) (zcode M_heard) 170 [(.iload 8, 2, 0, 0, 0), (.goto 5, 3, 0, 0, 0)] 177 = true := by decide +kernel
theorem M_heard_s175 : zseg (zown M_heard) (zcode M_heard) 175 [(.iload 9, 2, 0, 0, 0)] 177 = true := by decide +kernel
theorem M_heard_d2 : decode (zcode M_heard) 2 = .ok (.invokevirtual 116, 3) := by decide +kernel
theorem M_heard_d5 : decode (zcode M_heard) 5 = .ok (.ifCond .eq 22, 3) := by decide +kernel
theorem M_heard_d10 : decode (zcode M_heard) 10 = .ok (.invokevirtual 303, 3) := by decide +kernel
theorem M_heard_d13 : decode (zcode M_heard) 13 = .ok (.ifCond .eq 14, 3) := by decide +kernel
theorem M_heard_d21 : decode (zcode M_heard) 21 = .ok (.invokevirtual 112, 3) := by decide +kernel
theorem M_heard_d24 : decode (zcode M_heard) 24 = .ok (.ifCond .ne 5, 3) := by decide +kernel
theorem M_heard_d28 : decode (zcode M_heard) 28 = .ok (.ireturn, 1) := by decide +kernel
theorem M_heard_d31 : decode (zcode M_heard) 31 = .ok (.invokevirtual 306, 3) := by decide +kernel
theorem M_heard_d36 : decode (zcode M_heard) 36 = .ok (.invokevirtual 310, 3) := by decide +kernel
theorem M_heard_d67 : decode (zcode M_heard) 67 = .ok (.if_icmp .ge 68, 3) := by decide +kernel
theorem M_heard_d77 : decode (zcode M_heard) 77 = .ok (.ifCond .ne 52, 3) := by decide +kernel
theorem M_heard_d84 : decode (zcode M_heard) 84 = .ok (.invokevirtual 313, 3) := by decide +kernel
theorem M_heard_d88 : decode (zcode M_heard) 88 = .ok (.if_icmp .eq 6, 3) := by decide +kernel
theorem M_heard_d98 : decode (zcode M_heard) 98 = .ok (.if_icmp .ne 8, 3) := by decide +kernel
theorem M_heard_d137 : decode (zcode M_heard) 137 = .ok (.ifCond .ne 6, 3) := by decide +kernel
theorem M_heard_d142 : decode (zcode M_heard) 142 = .ok (.ireturn, 1) := by decide +kernel
theorem M_heard_d145 : decode (zcode M_heard) 145 = .ok (.ifCond .ne 8, 3) := by decide +kernel
theorem M_heard_d177 : decode (zcode M_heard) 177 = .ok (.ireturn, 1) := by decide +kernel
theorem M_heard_d156 : decode (zcode M_heard) 156 = .ok (.if_icmp .ne 8, 3) := by decide +kernel
theorem M_heard_d167 : decode (zcode M_heard) 167 = .ok (.if_icmp .ne 8, 3) := by decide +kernel
theorem M_barsOf_s0 : zseg (zown M_barsOf) (zcode M_barsOf) 0 [(.aload_n 0, 1, 0, 0, 0), (.getfield 87, 3, 0, 11, 43), (.iload_n 1, 1, 0, 0, 0), (.iaload, 1, 0, 0, 0)] 6 = true := by decide +kernel
theorem M_barsOf_s9 : zseg (zown M_barsOf) (zcode M_barsOf) 9 [(.bipush (-11), 2, (-11), 0, 0), (.goto 29, 3, 0, 0, 0)] 40 = true := by decide +kernel
theorem M_barsOf_s14 : zseg (zown M_barsOf) (zcode M_barsOf) 14 [(.aload_n 0, 1, 0, 0, 0), (.getfield 87, 3, 0, 11, 43), (.iload_n 1, 1, 0, 0, 0), (.iaload, 1, 0, 0, 0), (.iconst 2, 1, 2, 0, 0)] 21 = true := by decide +kernel
theorem M_barsOf_s24 : zseg (zown M_barsOf) (zcode M_barsOf) 24 [(.aload_n 0, 1, 0, 0, 0), (.getfield 90, 3, 0, 11, 44), (.iload_n 1, 1, 0, 0, 0), (.iaload, 1, 0, 0, 0), (.iconst 1, 1, 1, 0, 0)] 31 = true := by decide +kernel
theorem M_barsOf_s34 : zseg (zown M_barsOf) (zcode M_barsOf) 34 [(.bipush (-12), 2, (-12), 0, 0), (.goto 4, 3, 0, 0, 0)] 40 = true := by decide +kernel
theorem M_barsOf_s39 : zseg (zown M_barsOf) (zcode M_barsOf) 39 [(.iconst 0, 1, 0, 0, 0)] 40 = true := by decide +kernel
theorem M_barsOf_d6 : decode (zcode M_barsOf) 6 = .ok (.ifCond .ne 8, 3) := by decide +kernel
theorem M_barsOf_d40 : decode (zcode M_barsOf) 40 = .ok (.ireturn, 1) := by decide +kernel
theorem M_barsOf_d21 : decode (zcode M_barsOf) 21 = .ok (.if_icmp .ne 13, 3) := by decide +kernel
theorem M_barsOf_d31 : decode (zcode M_barsOf) 31 = .ok (.if_icmp .eq 8, 3) := by decide +kernel
theorem M_isLeft_s0 : zseg (zown M_isLeft) (zcode M_isLeft) 0 [(.iconst 0, 1, 0, 0, 0), (.istore_n 3, 1, 0, 0, 0)] 2 = true := by decide +kernel
theorem M_isLeft_s2 : zseg (zown M_isLeft) (zcode M_isLeft) 2 [(.iload_n 3, 1, 0, 0, 0), (.aload_n 0, 1, 0, 0, 0), (.getfield 106, 3, 0, 11, 0)] 7 = true := by decide +kernel
theorem M_isLeft_s10 : zseg (zown M_isLeft) (zcode M_isLeft) 10 [(.iload_n 3, 1, 0, 0, 0), (.aload_n 0, 1, 0, 0, 0), (.getfield 93, 3, 0, 11, 45), (.iload_n 1, 1, 0, 0, 0), (.iaload, 1, 0, 0, 0)] 17 = true := by decide +kernel
theorem M_isLeft_s20 : zseg (zown M_isLeft) (zcode M_isLeft) 20 [(.aload_n 0, 1, 0, 0, 0), (.iload_n 1, 1, 0, 0, 0), (.iload_n 3, 1, 0, 0, 0)] 23 = true := by decide +kernel
theorem M_isLeft_s26 : zseg (zown M_isLeft) (zcode M_isLeft) 26 [(.iconst (-1), 1, (-1), 0, 0)] 27 = true := by decide +kernel
theorem M_isLeft_s30 : zseg (zown M_isLeft) (zcode M_isLeft) 30 [(.aload_n 0, 1, 0, 0, 0), (.iload_n 1, 1, 0, 0, 0), (.iload_n 3, 1, 0, 0, 0)] 33 = true := by decide +kernel
theorem M_isLeft_s36 : zseg (zown M_isLeft) (zcode M_isLeft) 36 [(.aload_n 0, 1, 0, 0, 0), (.iload_n 3, 1, 0, 0, 0), (.iload_n 2, 1, 0, 0, 0)] 39 = true := by decide +kernel
theorem M_isLeft_s45 : zseg (zown M_isLeft) (zcode M_isLeft) 45 [(.iconst 0, 1, 0, 0, 0)] 46 = true := by decide +kernel
theorem M_isLeft_s47 : zseg (zown M_isLeft) (zcode M_isLeft) 47 [(.iinc 3 1, 3, 1, 0, 0), (.goto (-48), 3, 0, 0, 0)] 2 = true := by decide +kernel
theorem M_isLeft_s53 : zseg (zown M_isLeft) (zcode M_isLeft) 53 [(.iconst 1, 1, 1, 0, 0)] 54 = true := by decide +kernel
theorem M_isLeft_d7 : decode (zcode M_isLeft) 7 = .ok (.if_icmp .ge 46, 3) := by decide +kernel
theorem M_isLeft_d17 : decode (zcode M_isLeft) 17 = .ok (.if_icmp .ge 36, 3) := by decide +kernel
theorem M_isLeft_d23 : decode (zcode M_isLeft) 23 = .ok (.invokevirtual 127, 3) := by decide +kernel
theorem M_isLeft_d27 : decode (zcode M_isLeft) 27 = .ok (.if_icmp .eq 20, 3) := by decide +kernel
theorem M_isLeft_d33 : decode (zcode M_isLeft) 33 = .ok (.invokevirtual 127, 3) := by decide +kernel
theorem M_isLeft_d39 : decode (zcode M_isLeft) 39 = .ok (.invokevirtual 313, 3) := by decide +kernel
theorem M_isLeft_d42 : decode (zcode M_isLeft) 42 = .ok (.if_icmp .eq 5, 3) := by decide +kernel
theorem M_isLeft_d46 : decode (zcode M_isLeft) 46 = .ok (.ireturn, 1) := by decide +kernel
theorem M_isLeft_d54 : decode (zcode M_isLeft) 54 = .ok (.ireturn, 1) := by decide +kernel
theorem M_unlike_s0 : zseg (zown M_unlike) (zcode M_unlike) 0 [(.iconst 0, 1, 0, 0, 0), (.istore_n 3, 1, 0, 0, 0), (.iconst 0, 1, 0, 0, 0), (.istore 4, 2, 0, 0, 0)] 5 = true := by decide +kernel
theorem M_unlike_s5 : zseg (zown M_unlike) (zcode M_unlike) 5 [(.iload 4, 2, 0, 0, 0), (.sipush 320, 3, 320, 0, 0)] 10 = true := by decide +kernel
theorem M_unlike_s13 : zseg (zown M_unlike) (zcode M_unlike) 13 [(.aload_n 0, 1, 0, 0, 0), (.getfield 62, 3, 0, 11, 30), (.iload 4, 2, 0, 0, 0), (.iconst 0, 1, 0, 0, 0), (.bastore, 1, 0, 0, 0), (.iinc 4 1, 3, 1, 0, 0), (.goto (-19), 3, 0, 0, 0)] 5 = true := by decide +kernel
theorem M_unlike_s27 : zseg (zown M_unlike) (zcode M_unlike) 27 [(.iconst 0, 1, 0, 0, 0), (.istore 4, 2, 0, 0, 0)] 30 = true := by decide +kernel
theorem M_unlike_s30 : zseg (zown M_unlike) (zcode M_unlike) 30 [(.iload 4, 2, 0, 0, 0), (.iconst 1, 1, 1, 0, 0), (.aload_n 0, 1, 0, 0, 0), (.getfield 109, 3, 0, 11, 1), (.ishl, 1, 0, 0, 0)] 38 = true := by decide +kernel
theorem M_unlike_s41 : zseg (zown M_unlike) (zcode M_unlike) 41 [(.aload_n 0, 1, 0, 0, 0), (.iload_n 2, 1, 0, 0, 0), (.iload 4, 2, 0, 0, 0)] 45 = true := by decide +kernel
theorem M_unlike_s48 : zseg (zown M_unlike) (zcode M_unlike) 48 [(.bipush 108, 2, 108, 0, 0), (.iadd, 1, 0, 0, 0), (.istore 5, 2, 0, 0, 0), (.aload_n 0, 1, 0, 0, 0), (.getfield 62, 3, 0, 11, 30), (.iload 5, 2, 0, 0, 0), (.baload, 1, 0, 0, 0)] 60 = true := by decide +kernel
theorem M_unlike_s63 : zseg (zown M_unlike) (zcode M_unlike) 63 [(.aload_n 0, 1, 0, 0, 0), (.iload_n 1, 1, 0, 0, 0), (.iload 4, 2, 0, 0, 0)] 67 = true := by decide +kernel
theorem M_unlike_s73 : zseg (zown M_unlike) (zcode M_unlike) 73 [(.goto 14, 3, 0, 0, 0), (.iinc 4 1, 3, 1, 0, 0), (.goto (-60), 3, 0, 0, 0)] 30 = true := by decide +kernel
theorem M_unlike_s76 : zseg (zown M_unlike) (zcode M_unlike) 76 [(.aload_n 0, 1, 0, 0, 0), (.getfield 62, 3, 0, 11, 30), (.iload 5, 2, 0, 0, 0), (.iconst 1, 1, 1, 0, 0), (.bastore, 1, 0, 0, 0), (.iinc 3 1, 3, 1, 0, 0), (.iinc 4 1, 3, 1, 0, 0), (.goto (-60), 3, 0, 0, 0)] 30 = true := by decide +kernel
theorem M_unlike_s87 : zseg (zown M_unlike) (zcode M_unlike) 87 [(.iinc 4 1, 3, 1, 0, 0), (.goto (-60), 3, 0, 0, 0)] 30 = true := by decide +kernel
theorem M_unlike_s93 : zseg (zown M_unlike) (zcode M_unlike) 93 [(.iload_n 3, 1, 0, 0, 0)] 94 = true := by decide +kernel
theorem M_unlike_d10 : decode (zcode M_unlike) 10 = .ok (.if_icmp .ge 17, 3) := by decide +kernel
theorem M_unlike_d38 : decode (zcode M_unlike) 38 = .ok (.if_icmp .ge 55, 3) := by decide +kernel
theorem M_unlike_d45 : decode (zcode M_unlike) 45 = .ok (.invokevirtual 313, 3) := by decide +kernel
theorem M_unlike_d60 : decode (zcode M_unlike) 60 = .ok (.ifCond .ne 27, 3) := by decide +kernel
theorem M_unlike_d67 : decode (zcode M_unlike) 67 = .ok (.invokevirtual 316, 3) := by decide +kernel
theorem M_unlike_d70 : decode (zcode M_unlike) 70 = .ok (.ifCond .ne 6, 3) := by decide +kernel
theorem M_unlike_d94 : decode (zcode M_unlike) 94 = .ok (.ireturn, 1) := by decide +kernel
theorem M_strike_s0 : zseg (zown M_strike) (zcode M_strike) 0 [(.aload_n 0, 1, 0, 0, 0), (.iload_n 1, 1, 0, 0, 0)] 2 = true := by decide +kernel
theorem M_strike_s8 : zseg (zown M_strike) (zcode M_strike) 8 [(.aload_n 0, 1, 0, 0, 0), (.iload_n 2, 1, 0, 0, 0)] 10 = true := by decide +kernel
theorem M_strike_s16 : zseg (zown M_strike) (zcode M_strike) 16 [(.aload_n 0, 1, 0, 0, 0), (.iload_n 3, 1, 0, 0, 0), (.iconst 0, 1, 0, 0, 0), (.iconst 2, 1, 2, 0, 0)] 20 = true := by decide +kernel
theorem M_strike_s26 : zseg (zown M_strike) (zcode M_strike) 26 [(.iconst (-1), 1, (-1), 0, 0)] 27 = true := by decide +kernel
theorem M_strike_s28 : zseg (zown M_strike) (zcode M_strike) 28 [(.aload_n 0, 1, 0, 0, 0), (.iload_n 1, 1, 0, 0, 0)] 30 = true := by decide +kernel
theorem M_strike_s36 : zseg (zown M_strike) (zcode M_strike) 36 [(.aload_n 0, 1, 0, 0, 0), (.iload_n 1, 1, 0, 0, 0)] 38 = true := by decide +kernel
theorem M_strike_s42 : zseg (zown M_strike) (zcode M_strike) 42 [(.aload_n 0, 1, 0, 0, 0), (.iload_n 2, 1, 0, 0, 0)] 44 = true := by decide +kernel
theorem M_strike_s47 : zseg (zown M_strike) (zcode M_strike) 47 [(.iconst 0, 1, 0, 0, 0), (.istore 4, 2, 0, 0, 0), (.bipush (-2), 2, (-2), 0, 0), (.istore 5, 2, 0, 0, 0), (.iconst 0, 1, 0, 0, 0), (.istore 6, 2, 0, 0, 0), (.iconst 0, 1, 0, 0, 0), (.istore 7, 2, 0, 0, 0)] 60 = true := by decide +kernel
theorem M_strike_s60 : zseg (zown M_strike) (zcode M_strike) 60 [(.iload 7, 2, 0, 0, 0), (.iconst 1, 1, 1, 0, 0), (.aload_n 0, 1, 0, 0, 0), (.getfield 109, 3, 0, 11, 1), (.ishl, 1, 0, 0, 0)] 68 = true := by decide +kernel
theorem M_strike_s71 : zseg (zown M_strike) (zcode M_strike) 71 [(.iload 4, 2, 0, 0, 0), (.aload_n 0, 1, 0, 0, 0), (.aload_n 0, 1, 0, 0, 0), (.iload_n 1, 1, 0, 0, 0), (.iload 7, 2, 0, 0, 0)] 78 = true := by decide +kernel
theorem M_strike_s84 : zseg (zown M_strike) (zcode M_strike) 84 [(.iadd, 1, 0, 0, 0), (.istore 4, 2, 0, 0, 0), (.iinc 7 1, 3, 1, 0, 0), (.goto (-30), 3, 0, 0, 0)] 60 = true := by decide +kernel
theorem M_strike_s93 : zseg (zown M_strike) (zcode M_strike) 93 [(.iload_n 3, 1, 0, 0, 0)] 94 = true := by decide +kernel
theorem M_strike_s97 : zseg (zown M_strike) (zcode M_strike) 97 [(.iload 4, 2, 0, 0, 0)] 99 = true := by decide +kernel
theorem M_strike_s100 : zseg (zown M_strike) (zcode M_strike) 100 [(.iload 4, 2, 0, 0, 0)] 102 = true := by decide +kernel
theorem M_strike_s105 : zseg (zown M_strike) (zcode M_strike) 105 [(.aload_n 0, 1, 0, 0, 0), (.getfield 106, 3, 0, 11, 0)] 109 = true := by decide +kernel
theorem M_strike_s112 : zseg (zown M_strike) (zcode M_strike) 112 [(.bipush (-2), 2, (-2), 0, 0)] 114 = true := by decide +kernel
theorem M_strike_s115 : zseg (zown M_strike) (zcode M_strike) 115 [(.iconst 0, 1, 0, 0, 0), (.istore 7, 2, 0, 0, 0)] 118 = true := by decide +kernel
theorem M_strike_s118 : zseg (zown M_strike) (zcode M_strike) 118 [(.iload 7, 2, 0, 0, 0), (.aload_n 0, 1, 0, 0, 0), (.getfield 106, 3, 0, 11, 0)] 124 = true := by decide +kernel
theorem M_strike_s127 : zseg (zown M_strike) (zcode M_strike) 127 [(.aload_n 0, 1, 0, 0, 0), (.iload_n 1, 1, 0, 0, 0), (.iload 7, 2, 0, 0, 0)] 131 = true := by decide +kernel
theorem M_strike_s134 : zseg (zown M_strike) (zcode M_strike) 134 [(.istore 8, 2, 0, 0, 0), (.iload 5, 2, 0, 0, 0), (.bipush (-2), 2, (-2), 0, 0)] 140 = true := by decide +kernel
theorem M_strike_s143 : zseg (zown M_strike) (zcode M_strike) 143 [(.iload 8, 2, 0, 0, 0), (.iload 6, 2, 0, 0, 0)] 147 = true := by decide +kernel
theorem M_strike_s150 : zseg (zown M_strike) (zcode M_strike) 150 [(.goto 11, 3, 0, 0, 0), (.iinc 7 1, 3, 1, 0, 0), (.goto (-46), 3, 0, 0, 0)] 118 = true := by decide +kernel
theorem M_strike_s153 : zseg (zown M_strike) (zcode M_strike) 153 [(.iload 7, 2, 0, 0, 0), (.istore 5, 2, 0, 0, 0), (.iload 8, 2, 0, 0, 0), (.istore 6, 2, 0, 0, 0), (.iinc 7 1, 3, 1, 0, 0), (.goto (-46), 3, 0, 0, 0)] 118 = true := by decide +kernel
theorem M_strike_s167 : zseg (zown M_strike) (zcode M_strike) 167 [(.iload_n 3, 1, 0, 0, 0), (.iconst 1, 1, 1, 0, 0)] 169 = true := by decide +kernel
theorem M_strike_s172 : zseg (zown M_strike) (zcode M_strike) 172 [(.iload 5, 2, 0, 0, 0), (.goto 5, 3, 0, 0, 0)] 179 = true := by decide +kernel
theorem M_strike_s177 : zseg (zown M_strike) (zcode M_strike) 177 [(.iload 6, 2, 0, 0, 0)] 179 = true := by decide +kernel
theorem M_strike_d2 : decode (zcode M_strike) 2 = .ok (.invokevirtual 124, 3) := by decide +kernel
theorem M_strike_d5 : decode (zcode M_strike) 5 = .ok (.ifCond .eq 21, 3) := by decide +kernel
theorem M_strike_d10 : decode (zcode M_strike) 10 = .ok (.invokevirtual 303, 3) := by decide +kernel
theorem M_strike_d13 : decode (zcode M_strike) 13 = .ok (.ifCond .eq 13, 3) := by decide +kernel
theorem M_strike_d20 : decode (zcode M_strike) 20 = .ok (.invokevirtual 112, 3) := by decide +kernel
theorem M_strike_d23 : decode (zcode M_strike) 23 = .ok (.ifCond .ne 5, 3) := by decide +kernel
theorem M_strike_d27 : decode (zcode M_strike) 27 = .ok (.ireturn, 1) := by decide +kernel
theorem M_strike_d30 : decode (zcode M_strike) 30 = .ok (.invokevirtual 319, 3) := by decide +kernel
theorem M_strike_d33 : decode (zcode M_strike) 33 = .ok (.ifCond .eq 9, 3) := by decide +kernel
theorem M_strike_d38 : decode (zcode M_strike) 38 = .ok (.invokevirtual 319, 3) := by decide +kernel
theorem M_strike_d41 : decode (zcode M_strike) 41 = .ok (.ireturn, 1) := by decide +kernel
theorem M_strike_d44 : decode (zcode M_strike) 44 = .ok (.invokevirtual 306, 3) := by decide +kernel
theorem M_strike_d68 : decode (zcode M_strike) 68 = .ok (.if_icmp .ge 25, 3) := by decide +kernel
theorem M_strike_d78 : decode (zcode M_strike) 78 = .ok (.invokevirtual 316, 3) := by decide +kernel
theorem M_strike_d81 : decode (zcode M_strike) 81 = .ok (.invokevirtual 167, 3) := by decide +kernel
theorem M_strike_d94 : decode (zcode M_strike) 94 = .ok (.ifCond .ne 6, 3) := by decide +kernel
theorem M_strike_d99 : decode (zcode M_strike) 99 = .ok (.ireturn, 1) := by decide +kernel
theorem M_strike_d102 : decode (zcode M_strike) 102 = .ok (.ifCond .eq 10, 3) := by decide +kernel
theorem M_strike_d109 : decode (zcode M_strike) 109 = .ok (.ifCond .ne 6, 3) := by decide +kernel
theorem M_strike_d114 : decode (zcode M_strike) 114 = .ok (.ireturn, 1) := by decide +kernel
theorem M_strike_d124 : decode (zcode M_strike) 124 = .ok (.if_icmp .ge 43, 3) := by decide +kernel
theorem M_strike_d131 : decode (zcode M_strike) 131 = .ok (.invokevirtual 322, 3) := by decide +kernel
theorem M_strike_d140 : decode (zcode M_strike) 140 = .ok (.if_icmp .eq 13, 3) := by decide +kernel
theorem M_strike_d147 : decode (zcode M_strike) 147 = .ok (.if_icmp .gt 6, 3) := by decide +kernel
theorem M_strike_d169 : decode (zcode M_strike) 169 = .ok (.if_icmp .ne 8, 3) := by decide +kernel
theorem M_strike_d179 : decode (zcode M_strike) 179 = .ok (.ireturn, 1) := by decide +kernel
theorem M_judged_s0 : zseg (zown M_judged) (zcode M_judged) 0 [(.iconst 0, 1, 0, 0, 0), (.istore 4, 2, 0, 0, 0)] 3 = true := by decide +kernel
theorem M_judged_s3 : zseg (zown M_judged) (zcode M_judged) 3 [(.iload 4, 2, 0, 0, 0), (.aload_n 0, 1, 0, 0, 0), (.getfield 93, 3, 0, 11, 45), (.iload_n 1, 1, 0, 0, 0), (.iaload, 1, 0, 0, 0)] 11 = true := by decide +kernel
theorem M_judged_s14 : zseg (zown M_judged) (zcode M_judged) 14 [(.iload_n 3, 1, 0, 0, 0), (.bipush 100, 2, 100, 0, 0), (.idiv, 1, 0, 0, 0), (.iload 4, 2, 0, 0, 0), (.iadd, 1, 0, 0, 0), (.istore 5, 2, 0, 0, 0), (.iload 5, 2, 0, 0, 0), (.sipush 998, 3, 998, 0, 0)] 28 = true := by decide +kernel
theorem M_judged_s31 : zseg (zown M_judged) (zcode M_judged) 31 [(.aload_n 0, 1, 0, 0, 0), (.getfield 13, 3, 0, 11, 9), (.iload_n 2, 1, 0, 0, 0), (.iaload, 1, 0, 0, 0), (.aload_n 0, 1, 0, 0, 0), (.iload_n 2, 1, 0, 0, 0), (.iload 5, 2, 0, 0, 0), (.iload_n 3, 1, 0, 0, 0), (.bipush 100, 2, 100, 0, 0), (.irem, 1, 0, 0, 0)] 45 = true := by decide +kernel
theorem M_judged_s48 : zseg (zown M_judged) (zcode M_judged) 48 [(.iadd, 1, 0, 0, 0), (.aload_n 0, 1, 0, 0, 0), (.iload_n 1, 1, 0, 0, 0), (.iload 4, 2, 0, 0, 0)] 53 = true := by decide +kernel
theorem M_judged_s59 : zseg (zown M_judged) (zcode M_judged) 59 [(.iload 4, 2, 0, 0, 0)] 61 = true := by decide +kernel
theorem M_judged_s62 : zseg (zown M_judged) (zcode M_judged) 62 [(.iinc 4 1, 3, 1, 0, 0), (.goto (-62), 3, 0, 0, 0)] 3 = true := by decide +kernel
theorem M_judged_s68 : zseg (zown M_judged) (zcode M_judged) 68 [(.bipush (-2), 2, (-2), 0, 0)] 70 = true := by decide +kernel
theorem M_judged_d11 : decode (zcode M_judged) 11 = .ok (.if_icmp .ge 57, 3) := by decide +kernel
theorem M_judged_d28 : decode (zcode M_judged) 28 = .ok (.if_icmp .gt 31, 3) := by decide +kernel
theorem M_judged_d45 : decode (zcode M_judged) 45 = .ok (.invokevirtual 264, 3) := by decide +kernel
theorem M_judged_d53 : decode (zcode M_judged) 53 = .ok (.invokevirtual 127, 3) := by decide +kernel
theorem M_judged_d56 : decode (zcode M_judged) 56 = .ok (.if_icmp .eq 6, 3) := by decide +kernel
theorem M_judged_d61 : decode (zcode M_judged) 61 = .ok (.ireturn, 1) := by decide +kernel
theorem M_judged_d70 : decode (zcode M_judged) 70 = .ok (.ireturn, 1) := by decide +kernel
theorem M_judge_s0 : zseg (zown M_judge) (zcode M_judge) 0 [(.aload_n 0, 1, 0, 0, 0), (.iload_n 1, 1, 0, 0, 0)] 2 = true := by decide +kernel
theorem M_judge_s8 : zseg (zown M_judge) (zcode M_judge) 8 [(.aload_n 0, 1, 0, 0, 0), (.iload_n 2, 1, 0, 0, 0)] 10 = true := by decide +kernel
theorem M_judge_s16 : zseg (zown M_judge) (zcode M_judge) 16 [(.aload_n 0, 1, 0, 0, 0), (.iload_n 3, 1, 0, 0, 0)] 18 = true := by decide +kernel
theorem M_judge_s24 : zseg (zown M_judge) (zcode M_judge) 24 [(.iconst (-1), 1, (-1), 0, 0)] 25 = true := by decide +kernel
theorem M_judge_s26 : zseg (zown M_judge) (zcode M_judge) 26 [(.aload_n 0, 1, 0, 0, 0), (.iload_n 1, 1, 0, 0, 0)] 28 = true := by decide +kernel
theorem M_judge_s34 : zseg (zown M_judge) (zcode M_judge) 34 [(.aload_n 0, 1, 0, 0, 0), (.iload_n 1, 1, 0, 0, 0)] 36 = true := by decide +kernel
theorem M_judge_s39 : zseg (zown M_judge) (zcode M_judge) 39 [(.goto 10, 3, 0, 0, 0)] 49 = true := by decide +kernel
theorem M_judge_s42 : zseg (zown M_judge) (zcode M_judge) 42 [(.aload_n 0, 1, 0, 0, 0), (.iload_n 1, 1, 0, 0, 0), (.iload_n 2, 1, 0, 0, 0), (.iload_n 3, 1, 0, 0, 0)] 46 = true := by decide +kernel
theorem M_judge_d2 : decode (zcode M_judge) 2 = .ok (.invokevirtual 124, 3) := by decide +kernel
theorem M_judge_d5 : decode (zcode M_judge) 5 = .ok (.ifCond .eq 19, 3) := by decide +kernel
theorem M_judge_d10 : decode (zcode M_judge) 10 = .ok (.invokevirtual 116, 3) := by decide +kernel
theorem M_judge_d13 : decode (zcode M_judge) 13 = .ok (.ifCond .eq 11, 3) := by decide +kernel
theorem M_judge_d18 : decode (zcode M_judge) 18 = .ok (.invokevirtual 256, 3) := by decide +kernel
theorem M_judge_d21 : decode (zcode M_judge) 21 = .ok (.ifCond .ne 5, 3) := by decide +kernel
theorem M_judge_d25 : decode (zcode M_judge) 25 = .ok (.ireturn, 1) := by decide +kernel
theorem M_judge_d28 : decode (zcode M_judge) 28 = .ok (.invokevirtual 319, 3) := by decide +kernel
theorem M_judge_d31 : decode (zcode M_judge) 31 = .ok (.ifCond .eq 11, 3) := by decide +kernel
theorem M_judge_d36 : decode (zcode M_judge) 36 = .ok (.invokevirtual 319, 3) := by decide +kernel
theorem M_judge_d49 : decode (zcode M_judge) 49 = .ok (.ireturn, 1) := by decide +kernel
theorem M_judge_d46 : decode (zcode M_judge) 46 = .ok (.invokevirtual 325, 3) := by decide +kernel
theorem M_tellsBeside_s0 : zseg (zown M_tellsBeside) (zcode M_tellsBeside) 0 [(.iconst 0, 1, 0, 0, 0), (.istore 5, 2, 0, 0, 0)] 3 = true := by decide +kernel
theorem M_tellsBeside_s3 : zseg (zown M_tellsBeside) (zcode M_tellsBeside) 3 [(.iload 5, 2, 0, 0, 0), (.aload_n 0, 1, 0, 0, 0), (.getfield 93, 3, 0, 11, 45), (.iload_n 1, 1, 0, 0, 0), (.iaload, 1, 0, 0, 0)] 11 = true := by decide +kernel
theorem M_tellsBeside_s14 : zseg (zown M_tellsBeside) (zcode M_tellsBeside) 14 [(.iload_n 3, 1, 0, 0, 0), (.bipush 100, 2, 100, 0, 0), (.idiv, 1, 0, 0, 0), (.iload 5, 2, 0, 0, 0), (.iadd, 1, 0, 0, 0), (.istore 6, 2, 0, 0, 0), (.aload_n 0, 1, 0, 0, 0), (.getfield 66, 3, 0, 11, 31), (.iload 5, 2, 0, 0, 0), (.iload 6, 2, 0, 0, 0), (.sipush 998, 3, 998, 0, 0)] 34 = true := by decide +kernel
theorem M_tellsBeside_s37 : zseg (zown M_tellsBeside) (zcode M_tellsBeside) 37 [(.iconst 0, 1, 0, 0, 0), (.goto 28, 3, 0, 0, 0), (.iastore, 1, 0, 0, 0), (.iinc 5 1, 3, 1, 0, 0), (.goto (-67), 3, 0, 0, 0)] 3 = true := by decide +kernel
theorem M_tellsBeside_s41 : zseg (zown M_tellsBeside) (zcode M_tellsBeside) 41 [(.aload_n 0, 1, 0, 0, 0), (.iload_n 2, 1, 0, 0, 0), (.iload 6, 2, 0, 0, 0), (.iload_n 3, 1, 0, 0, 0), (.bipush 100, 2, 100, 0, 0), (.irem, 1, 0, 0, 0)] 49 = true := by decide +kernel
theorem M_tellsBeside_s52 : zseg (zown M_tellsBeside) (zcode M_tellsBeside) 52 [(.aload_n 0, 1, 0, 0, 0), (.iload 4, 2, 0, 0, 0), (.iload_n 2, 1, 0, 0, 0), (.iload 6, 2, 0, 0, 0), (.iload_n 3, 1, 0, 0, 0), (.bipush 100, 2, 100, 0, 0), (.irem, 1, 0, 0, 0)] 62 = true := by decide +kernel
theorem M_tellsBeside_s65 : zseg (zown M_tellsBeside) (zcode M_tellsBeside) 65 [(.isub, 1, 0, 0, 0), (.iastore, 1, 0, 0, 0), (.iinc 5 1, 3, 1, 0, 0), (.goto (-67), 3, 0, 0, 0)] 3 = true := by decide +kernel
theorem M_tellsBeside_d11 : decode (zcode M_tellsBeside) 11 = .ok (.if_icmp .ge 62, 3) := by decide +kernel
theorem M_tellsBeside_d34 : decode (zcode M_tellsBeside) 34 = .ok (.if_icmp .le 7, 3) := by decide +kernel
theorem M_tellsBeside_d49 : decode (zcode M_tellsBeside) 49 = .ok (.invokevirtual 264, 3) := by decide +kernel
theorem M_tellsBeside_d62 : decode (zcode M_tellsBeside) 62 = .ok (.invokevirtual 259, 3) := by decide +kernel
theorem M_tellsBeside_d73 : decode (zcode M_tellsBeside) 73 = .ok (.return_, 1) := by decide +kernel
theorem M_isSoWith_s0 : zseg (zown M_isSoWith) (zcode M_isSoWith) 0 [(.iconst 0, 1, 0, 0, 0), (.istore 5, 2, 0, 0, 0)] 3 = true := by decide +kernel
theorem M_isSoWith_s3 : zseg (zown M_isSoWith) (zcode M_isSoWith) 3 [(.iload 5, 2, 0, 0, 0), (.aload_n 0, 1, 0, 0, 0), (.getfield 93, 3, 0, 11, 45), (.iload_n 1, 1, 0, 0, 0), (.iaload, 1, 0, 0, 0)] 11 = true := by decide +kernel
theorem M_isSoWith_s14 : zseg (zown M_isSoWith) (zcode M_isSoWith) 14 [(.iload_n 3, 1, 0, 0, 0), (.bipush 100, 2, 100, 0, 0), (.idiv, 1, 0, 0, 0), (.iload 5, 2, 0, 0, 0), (.iadd, 1, 0, 0, 0), (.istore 6, 2, 0, 0, 0), (.iload 6, 2, 0, 0, 0), (.sipush 998, 3, 998, 0, 0)] 28 = true := by decide +kernel
theorem M_isSoWith_s31 : zseg (zown M_isSoWith) (zcode M_isSoWith) 31 [(.aload_n 0, 1, 0, 0, 0), (.getfield 13, 3, 0, 11, 9), (.iload_n 2, 1, 0, 0, 0), (.iaload, 1, 0, 0, 0), (.aload_n 0, 1, 0, 0, 0), (.getfield 66, 3, 0, 11, 31), (.iload 5, 2, 0, 0, 0), (.iaload, 1, 0, 0, 0), (.iadd, 1, 0, 0, 0), (.aload_n 0, 1, 0, 0, 0), (.iload 4, 2, 0, 0, 0), (.iload_n 2, 1, 0, 0, 0), (.iload 6, 2, 0, 0, 0), (.iload_n 3, 1, 0, 0, 0), (.bipush 100, 2, 100, 0, 0), (.irem, 1, 0, 0, 0)] 55 = true := by decide +kernel
theorem M_isSoWith_s58 : zseg (zown M_isSoWith) (zcode M_isSoWith) 58 [(.iadd, 1, 0, 0, 0), (.aload_n 0, 1, 0, 0, 0), (.iload_n 1, 1, 0, 0, 0), (.iload 5, 2, 0, 0, 0)] 63 = true := by decide +kernel
theorem M_isSoWith_s69 : zseg (zown M_isSoWith) (zcode M_isSoWith) 69 [(.iconst 0, 1, 0, 0, 0)] 70 = true := by decide +kernel
theorem M_isSoWith_s71 : zseg (zown M_isSoWith) (zcode M_isSoWith) 71 [(.iinc 5 1, 3, 1, 0, 0), (.goto (-71), 3, 0, 0, 0)] 3 = true := by decide +kernel
theorem M_isSoWith_s77 : zseg (zown M_isSoWith) (zcode M_isSoWith) 77 [(.iconst 1, 1, 1, 0, 0)] 78 = true := by decide +kernel
theorem M_isSoWith_d11 : decode (zcode M_isSoWith) 11 = .ok (.if_icmp .ge 66, 3) := by decide +kernel
theorem M_isSoWith_d28 : decode (zcode M_isSoWith) 28 = .ok (.if_icmp .gt 41, 3) := by decide +kernel
theorem M_isSoWith_d55 : decode (zcode M_isSoWith) 55 = .ok (.invokevirtual 259, 3) := by decide +kernel
theorem M_isSoWith_d63 : decode (zcode M_isSoWith) 63 = .ok (.invokevirtual 127, 3) := by decide +kernel
theorem M_isSoWith_d66 : decode (zcode M_isSoWith) 66 = .ok (.if_icmp .eq 5, 3) := by decide +kernel
theorem M_isSoWith_d70 : decode (zcode M_isSoWith) 70 = .ok (.ireturn, 1) := by decide +kernel
theorem M_isSoWith_d78 : decode (zcode M_isSoWith) 78 = .ok (.ireturn, 1) := by decide +kernel
theorem M_broke_s0 : zseg (zown M_broke) (zcode M_broke) 0 [(.aload_n 0, 1, 0, 0, 0), (.iload_n 1, 1, 0, 0, 0)] 2 = true := by decide +kernel
theorem M_broke_s8 : zseg (zown M_broke) (zcode M_broke) 8 [(.aload_n 0, 1, 0, 0, 0), (.iload_n 2, 1, 0, 0, 0)] 10 = true := by decide +kernel
theorem M_broke_s16 : zseg (zown M_broke) (zcode M_broke) 16 [(.aload_n 0, 1, 0, 0, 0), (.iload_n 3, 1, 0, 0, 0)] 18 = true := by decide +kernel
theorem M_broke_s24 : zseg (zown M_broke) (zcode M_broke) 24 [(.aload_n 0, 1, 0, 0, 0), (.iload 4, 2, 0, 0, 0), (.iconst 0, 1, 0, 0, 0), (.iconst 1, 1, 1, 0, 0)] 29 = true := by decide +kernel
theorem M_broke_s35 : zseg (zown M_broke) (zcode M_broke) 35 [(.iconst (-1), 1, (-1), 0, 0)] 36 = true := by decide +kernel
theorem M_broke_s37 : zseg (zown M_broke) (zcode M_broke) 37 [(.aload_n 0, 1, 0, 0, 0), (.iload_n 1, 1, 0, 0, 0)] 39 = true := by decide +kernel
theorem M_broke_s45 : zseg (zown M_broke) (zcode M_broke) 45 [(.aload_n 0, 1, 0, 0, 0), (.iload_n 1, 1, 0, 0, 0)] 47 = true := by decide +kernel
theorem M_broke_s51 : zseg (zown M_broke) (zcode M_broke) 51 [(.bipush (-2), 2, (-2), 0, 0), (.istore 5, 2, 0, 0, 0), (.iconst 0, 1, 0, 0, 0), (.istore 6, 2, 0, 0, 0), (.iconst 0, 1, 0, 0, 0), (.istore 7, 2, 0, 0, 0)] 61 = true := by decide +kernel
theorem M_broke_s61 : zseg (zown M_broke) (zcode M_broke) 61 [(.iload 7, 2, 0, 0, 0), (.aload_n 0, 1, 0, 0, 0), (.getfield 109, 3, 0, 11, 1)] 67 = true := by decide +kernel
theorem M_broke_s70 : zseg (zown M_broke) (zcode M_broke) 70 [(.aload_n 0, 1, 0, 0, 0), (.getfield 20, 3, 0, 11, 11), (.iload 7, 2, 0, 0, 0), (.iaload, 1, 0, 0, 0), (.iload_n 2, 1, 0, 0, 0)] 78 = true := by decide +kernel
theorem M_broke_s81 : zseg (zown M_broke) (zcode M_broke) 81 [(.goto 125, 3, 0, 0, 0), (.iinc 7 1, 3, 1, 0, 0), (.goto (-148), 3, 0, 0, 0)] 61 = true := by decide +kernel
theorem M_broke_s84 : zseg (zown M_broke) (zcode M_broke) 84 [(.aload_n 0, 1, 0, 0, 0), (.getfield 29, 3, 0, 11, 14), (.iload 7, 2, 0, 0, 0), (.iaload, 1, 0, 0, 0), (.istore 8, 2, 0, 0, 0), (.aload_n 0, 1, 0, 0, 0), (.getfield 32, 3, 0, 11, 15), (.iload 7, 2, 0, 0, 0), (.iaload, 1, 0, 0, 0), (.istore 9, 2, 0, 0, 0), (.aload_n 0, 1, 0, 0, 0), (.getfield 32, 3, 0, 11, 15), (.iload 7, 2, 0, 0, 0), (.sipush 999, 3, 999, 0, 0), (.iastore, 1, 0, 0, 0), (.aload_n 0, 1, 0, 0, 0), (.iload_n 1, 1, 0, 0, 0), (.iload_n 2, 1, 0, 0, 0), (.iload_n 3, 1, 0, 0, 0), (.iload 7, 2, 0, 0, 0)] 118 = true := by decide +kernel
theorem M_broke_s121 : zseg (zown M_broke) (zcode M_broke) 121 [(.iconst 0, 1, 0, 0, 0), (.istore 10, 2, 0, 0, 0)] 124 = true := by decide +kernel
theorem M_broke_s124 : zseg (zown M_broke) (zcode M_broke) 124 [(.iload 10, 2, 0, 0, 0), (.sipush 999, 3, 999, 0, 0)] 129 = true := by decide +kernel
theorem M_broke_s132 : zseg (zown M_broke) (zcode M_broke) 132 [(.aload_n 0, 1, 0, 0, 0), (.getfield 29, 3, 0, 11, 14), (.iload 7, 2, 0, 0, 0), (.iload 10, 2, 0, 0, 0), (.iastore, 1, 0, 0, 0), (.aload_n 0, 1, 0, 0, 0), (.iload_n 1, 1, 0, 0, 0), (.iload_n 2, 1, 0, 0, 0), (.iload_n 3, 1, 0, 0, 0), (.iload 7, 2, 0, 0, 0)] 147 = true := by decide +kernel
theorem M_broke_s153 : zseg (zown M_broke) (zcode M_broke) 153 [(.goto 29, 3, 0, 0, 0), (.iinc 10 1, 3, 1, 0, 0), (.goto (-61), 3, 0, 0, 0)] 124 = true := by decide +kernel
theorem M_broke_s156 : zseg (zown M_broke) (zcode M_broke) 156 [(.iload 5, 2, 0, 0, 0), (.bipush (-2), 2, (-2), 0, 0)] 160 = true := by decide +kernel
theorem M_broke_s163 : zseg (zown M_broke) (zcode M_broke) 163 [(.sipush 1000, 3, 1000, 0, 0), (.iload 7, 2, 0, 0, 0), (.imul, 1, 0, 0, 0), (.iload 10, 2, 0, 0, 0), (.iadd, 1, 0, 0, 0), (.goto 5, 3, 0, 0, 0), (.istore 5, 2, 0, 0, 0), (.iinc 6 1, 3, 1, 0, 0), (.iinc 10 1, 3, 1, 0, 0), (.goto (-61), 3, 0, 0, 0)] 124 = true := by decide +kernel
theorem M_broke_s175 : zseg (zown M_broke) (zcode M_broke) 175 [(.iload 5, 2, 0, 0, 0), (.istore 5, 2, 0, 0, 0), (.iinc 6 1, 3, 1, 0, 0), (.iinc 10 1, 3, 1, 0, 0), (.goto (-61), 3, 0, 0, 0)] 124 = true := by decide +kernel
theorem M_broke_s188 : zseg (zown M_broke) (zcode M_broke) 188 [(.aload_n 0, 1, 0, 0, 0), (.getfield 29, 3, 0, 11, 14), (.iload 7, 2, 0, 0, 0), (.iload 8, 2, 0, 0, 0), (.iastore, 1, 0, 0, 0), (.aload_n 0, 1, 0, 0, 0), (.getfield 32, 3, 0, 11, 15), (.iload 7, 2, 0, 0, 0), (.iload 9, 2, 0, 0, 0), (.iastore, 1, 0, 0, 0), (.iinc 7 1, 3, 1, 0, 0), (.goto (-148), 3, 0, 0, 0)] 61 = true := by decide +kernel
theorem M_broke_s212 : zseg (zown M_broke) (zcode M_broke) 212 [(.iload 4, 2, 0, 0, 0)] 214 = true := by decide +kernel
theorem M_broke_s217 : zseg (zown M_broke) (zcode M_broke) 217 [(.iload 5, 2, 0, 0, 0), (.goto 5, 3, 0, 0, 0)] 224 = true := by decide +kernel
theorem M_broke_s222 : zseg (zown M_broke) (zcode M_broke) 222 [(.iload 6, 2, 0, 0, 0)] 224 = true := by decide +kernel
theorem M_broke_d2 : decode (zcode M_broke) 2 = .ok (.invokevirtual 124, 3) := by decide +kernel
theorem M_broke_d5 : decode (zcode M_broke) 5 = .ok (.ifCond .eq 30, 3) := by decide +kernel
theorem M_broke_d10 : decode (zcode M_broke) 10 = .ok (.invokevirtual 116, 3) := by decide +kernel
theorem M_broke_d13 : decode (zcode M_broke) 13 = .ok (.ifCond .eq 22, 3) := by decide +kernel
theorem M_broke_d18 : decode (zcode M_broke) 18 = .ok (.invokevirtual 256, 3) := by decide +kernel
theorem M_broke_d21 : decode (zcode M_broke) 21 = .ok (.ifCond .eq 14, 3) := by decide +kernel
theorem M_broke_d29 : decode (zcode M_broke) 29 = .ok (.invokevirtual 112, 3) := by decide +kernel
theorem M_broke_d32 : decode (zcode M_broke) 32 = .ok (.ifCond .ne 5, 3) := by decide +kernel
theorem M_broke_d36 : decode (zcode M_broke) 36 = .ok (.ireturn, 1) := by decide +kernel
theorem M_broke_d39 : decode (zcode M_broke) 39 = .ok (.invokevirtual 319, 3) := by decide +kernel
theorem M_broke_d42 : decode (zcode M_broke) 42 = .ok (.ifCond .eq 9, 3) := by decide +kernel
theorem M_broke_d47 : decode (zcode M_broke) 47 = .ok (.invokevirtual 319, 3) := by decide +kernel
theorem M_broke_d50 : decode (zcode M_broke) 50 = .ok (.ireturn, 1) := by decide +kernel
theorem M_broke_d67 : decode (zcode M_broke) 67 = .ok (.if_icmp .ge 145, 3) := by decide +kernel
theorem M_broke_d78 : decode (zcode M_broke) 78 = .ok (.if_icmp .eq 6, 3) := by decide +kernel
theorem M_broke_d118 : decode (zcode M_broke) 118 = .ok (.invokevirtual 328, 3) := by decide +kernel
theorem M_broke_d129 : decode (zcode M_broke) 129 = .ok (.if_icmp .gt 59, 3) := by decide +kernel
theorem M_broke_d147 : decode (zcode M_broke) 147 = .ok (.invokevirtual 332, 3) := by decide +kernel
theorem M_broke_d150 : decode (zcode M_broke) 150 = .ok (.ifCond .ne 6, 3) := by decide +kernel
theorem M_broke_d160 : decode (zcode M_broke) 160 = .ok (.if_icmp .ne 15, 3) := by decide +kernel
theorem M_broke_d214 : decode (zcode M_broke) 214 = .ok (.ifCond .ne 8, 3) := by decide +kernel
theorem M_broke_d224 : decode (zcode M_broke) 224 = .ok (.ireturn, 1) := by decide +kernel
theorem M_cast_s0 : zseg (zown M_cast) (zcode M_cast) 0 [(.aload_n 0, 1, 0, 0, 0), (.iload_n 1, 1, 0, 0, 0)] 2 = true := by decide +kernel
theorem M_cast_s8 : zseg (zown M_cast) (zcode M_cast) 8 [(.iload_n 2, 1, 0, 0, 0)] 9 = true := by decide +kernel
theorem M_cast_s12 : zseg (zown M_cast) (zcode M_cast) 12 [(.iload_n 2, 1, 0, 0, 0), (.bipush 100, 2, 100, 0, 0), (.idiv, 1, 0, 0, 0), (.bipush 99, 2, 99, 0, 0)] 18 = true := by decide +kernel
theorem M_cast_s21 : zseg (zown M_cast) (zcode M_cast) 21 [(.iload_n 2, 1, 0, 0, 0), (.bipush 100, 2, 100, 0, 0), (.irem, 1, 0, 0, 0), (.bipush 23, 2, 23, 0, 0)] 27 = true := by decide +kernel
theorem M_cast_s30 : zseg (zown M_cast) (zcode M_cast) 30 [(.aload_n 0, 1, 0, 0, 0), (.iload_n 3, 1, 0, 0, 0), (.iconst 0, 1, 0, 0, 0), (.iconst 1, 1, 1, 0, 0)] 34 = true := by decide +kernel
theorem M_cast_s40 : zseg (zown M_cast) (zcode M_cast) 40 [(.iconst (-1), 1, (-1), 0, 0)] 41 = true := by decide +kernel
theorem M_cast_s42 : zseg (zown M_cast) (zcode M_cast) 42 [(.aload_n 0, 1, 0, 0, 0), (.getfield 20, 3, 0, 11, 11), (.iload_n 1, 1, 0, 0, 0), (.iaload, 1, 0, 0, 0), (.istore 4, 2, 0, 0, 0), (.bipush (-2), 2, (-2), 0, 0), (.istore 5, 2, 0, 0, 0), (.iconst 0, 1, 0, 0, 0), (.istore 6, 2, 0, 0, 0), (.iconst 0, 1, 0, 0, 0), (.istore 7, 2, 0, 0, 0)] 60 = true := by decide +kernel
theorem M_cast_s60 : zseg (zown M_cast) (zcode M_cast) 60 [(.iload 7, 2, 0, 0, 0), (.aload_n 0, 1, 0, 0, 0), (.getfield 106, 3, 0, 11, 0)] 66 = true := by decide +kernel
theorem M_cast_s69 : zseg (zown M_cast) (zcode M_cast) 69 [(.aload_n 0, 1, 0, 0, 0), (.getfield 20, 3, 0, 11, 11), (.iload_n 1, 1, 0, 0, 0), (.iload 7, 2, 0, 0, 0), (.iastore, 1, 0, 0, 0), (.iconst 0, 1, 0, 0, 0), (.istore 8, 2, 0, 0, 0), (.iconst 0, 1, 0, 0, 0), (.istore 9, 2, 0, 0, 0)] 83 = true := by decide +kernel
theorem M_cast_s83 : zseg (zown M_cast) (zcode M_cast) 83 [(.iload 9, 2, 0, 0, 0), (.iload_n 2, 1, 0, 0, 0), (.bipush 100, 2, 100, 0, 0), (.idiv, 1, 0, 0, 0)] 89 = true := by decide +kernel
theorem M_cast_s92 : zseg (zown M_cast) (zcode M_cast) 92 [(.iload 8, 2, 0, 0, 0), (.aload_n 0, 1, 0, 0, 0), (.iload 9, 2, 0, 0, 0), (.iload_n 2, 1, 0, 0, 0), (.bipush 100, 2, 100, 0, 0), (.irem, 1, 0, 0, 0)] 101 = true := by decide +kernel
theorem M_cast_s104 : zseg (zown M_cast) (zcode M_cast) 104 [(.iadd, 1, 0, 0, 0), (.istore 8, 2, 0, 0, 0), (.iinc 9 1, 3, 1, 0, 0), (.goto (-27), 3, 0, 0, 0)] 83 = true := by decide +kernel
theorem M_cast_s113 : zseg (zown M_cast) (zcode M_cast) 113 [(.iload 5, 2, 0, 0, 0), (.bipush (-2), 2, (-2), 0, 0)] 117 = true := by decide +kernel
theorem M_cast_s120 : zseg (zown M_cast) (zcode M_cast) 120 [(.iload 8, 2, 0, 0, 0), (.iload 6, 2, 0, 0, 0)] 124 = true := by decide +kernel
theorem M_cast_s127 : zseg (zown M_cast) (zcode M_cast) 127 [(.goto 11, 3, 0, 0, 0), (.iinc 7 1, 3, 1, 0, 0), (.goto (-81), 3, 0, 0, 0)] 60 = true := by decide +kernel
theorem M_cast_s130 : zseg (zown M_cast) (zcode M_cast) 130 [(.iload 7, 2, 0, 0, 0), (.istore 5, 2, 0, 0, 0), (.iload 8, 2, 0, 0, 0), (.istore 6, 2, 0, 0, 0), (.iinc 7 1, 3, 1, 0, 0), (.goto (-81), 3, 0, 0, 0)] 60 = true := by decide +kernel
theorem M_cast_s144 : zseg (zown M_cast) (zcode M_cast) 144 [(.aload_n 0, 1, 0, 0, 0), (.getfield 20, 3, 0, 11, 11), (.iload_n 1, 1, 0, 0, 0), (.iload 4, 2, 0, 0, 0), (.iastore, 1, 0, 0, 0), (.iload_n 3, 1, 0, 0, 0)] 153 = true := by decide +kernel
theorem M_cast_s156 : zseg (zown M_cast) (zcode M_cast) 156 [(.iload 5, 2, 0, 0, 0), (.goto 5, 3, 0, 0, 0)] 163 = true := by decide +kernel
theorem M_cast_s161 : zseg (zown M_cast) (zcode M_cast) 161 [(.iload 6, 2, 0, 0, 0)] 163 = true := by decide +kernel
theorem M_cast_d2 : decode (zcode M_cast) 2 = .ok (.invokevirtual 131, 3) := by decide +kernel
theorem M_cast_d5 : decode (zcode M_cast) 5 = .ok (.ifCond .eq 35, 3) := by decide +kernel
theorem M_cast_d9 : decode (zcode M_cast) 9 = .ok (.ifCond .lt 31, 3) := by decide +kernel
theorem M_cast_d18 : decode (zcode M_cast) 18 = .ok (.if_icmp .gt 22, 3) := by decide +kernel
theorem M_cast_d27 : decode (zcode M_cast) 27 = .ok (.if_icmp .gt 13, 3) := by decide +kernel
theorem M_cast_d34 : decode (zcode M_cast) 34 = .ok (.invokevirtual 112, 3) := by decide +kernel
theorem M_cast_d37 : decode (zcode M_cast) 37 = .ok (.ifCond .ne 5, 3) := by decide +kernel
theorem M_cast_d41 : decode (zcode M_cast) 41 = .ok (.ireturn, 1) := by decide +kernel
theorem M_cast_d66 : decode (zcode M_cast) 66 = .ok (.if_icmp .ge 78, 3) := by decide +kernel
theorem M_cast_d89 : decode (zcode M_cast) 89 = .ok (.if_icmp .gt 24, 3) := by decide +kernel
theorem M_cast_d101 : decode (zcode M_cast) 101 = .ok (.invokevirtual 273, 3) := by decide +kernel
theorem M_cast_d117 : decode (zcode M_cast) 117 = .ok (.if_icmp .eq 13, 3) := by decide +kernel
theorem M_cast_d124 : decode (zcode M_cast) 124 = .ok (.if_icmp .lt 6, 3) := by decide +kernel
theorem M_cast_d153 : decode (zcode M_cast) 153 = .ok (.ifCond .ne 8, 3) := by decide +kernel
theorem M_cast_d163 : decode (zcode M_cast) 163 = .ok (.ireturn, 1) := by decide +kernel
theorem M_melts_s0 : zseg (zown M_melts) (zcode M_melts) 0 [(.iload_n 2, 1, 0, 0, 0), (.istore 5, 2, 0, 0, 0)] 3 = true := by decide +kernel
theorem M_melts_s3 : zseg (zown M_melts) (zcode M_melts) 3 [(.iload 5, 2, 0, 0, 0), (.aload_n 0, 1, 0, 0, 0), (.getfield 109, 3, 0, 11, 1)] 9 = true := by decide +kernel
theorem M_melts_s12 : zseg (zown M_melts) (zcode M_melts) 12 [(.aload_n 0, 1, 0, 0, 0), (.getfield 20, 3, 0, 11, 11), (.iload 5, 2, 0, 0, 0), (.iaload, 1, 0, 0, 0), (.iload_n 1, 1, 0, 0, 0)] 20 = true := by decide +kernel
theorem M_melts_s23 : zseg (zown M_melts) (zcode M_melts) 23 [(.iinc 5 1, 3, 1, 0, 0), (.goto (-23), 3, 0, 0, 0)] 3 = true := by decide +kernel
theorem M_melts_s29 : zseg (zown M_melts) (zcode M_melts) 29 [(.iload 5, 2, 0, 0, 0), (.aload_n 0, 1, 0, 0, 0), (.getfield 109, 3, 0, 11, 1)] 35 = true := by decide +kernel
theorem M_melts_s38 : zseg (zown M_melts) (zcode M_melts) 38 [(.aload_n 0, 1, 0, 0, 0), (.iload_n 3, 1, 0, 0, 0), (.iload 4, 2, 0, 0, 0)] 42 = true := by decide +kernel
theorem M_melts_s45 : zseg (zown M_melts) (zcode M_melts) 45 [(.istore 6, 2, 0, 0, 0), (.aload_n 0, 1, 0, 0, 0), (.getfield 336, 3, 0, 11, 33)] 51 = true := by decide +kernel
theorem M_melts_s54 : zseg (zown M_melts) (zcode M_melts) 54 [(.iload 6, 2, 0, 0, 0), (.aload_n 0, 1, 0, 0, 0), (.getfield 336, 3, 0, 11, 33)] 60 = true := by decide +kernel
theorem M_melts_s64 : zseg (zown M_melts) (zcode M_melts) 64 [(.aload_n 0, 1, 0, 0, 0), (.iload 6, 2, 0, 0, 0), (.putfield 336, 3, 0, 11, 33), (.iconst 0, 1, 0, 0, 0), (.istore 7, 2, 0, 0, 0)] 73 = true := by decide +kernel
theorem M_melts_s73 : zseg (zown M_melts) (zcode M_melts) 73 [(.iload 7, 2, 0, 0, 0), (.aload_n 0, 1, 0, 0, 0), (.getfield 109, 3, 0, 11, 1)] 79 = true := by decide +kernel
theorem M_melts_s82 : zseg (zown M_melts) (zcode M_melts) 82 [(.aload_n 0, 1, 0, 0, 0), (.getfield 69, 3, 0, 11, 32), (.iload 7, 2, 0, 0, 0), (.aload_n 0, 1, 0, 0, 0), (.getfield 20, 3, 0, 11, 11), (.iload 7, 2, 0, 0, 0), (.iaload, 1, 0, 0, 0), (.iastore, 1, 0, 0, 0), (.iinc 7 1, 3, 1, 0, 0), (.goto (-26), 3, 0, 0, 0)] 73 = true := by decide +kernel
theorem M_melts_s103 : zseg (zown M_melts) (zcode M_melts) 103 [(.iconst 0, 1, 0, 0, 0), (.istore 6, 2, 0, 0, 0)] 106 = true := by decide +kernel
theorem M_melts_s106 : zseg (zown M_melts) (zcode M_melts) 106 [(.iload 6, 2, 0, 0, 0), (.aload_n 0, 1, 0, 0, 0), (.getfield 106, 3, 0, 11, 0)] 112 = true := by decide +kernel
theorem M_melts_s115 : zseg (zown M_melts) (zcode M_melts) 115 [(.iload 6, 2, 0, 0, 0), (.iload_n 1, 1, 0, 0, 0)] 118 = true := by decide +kernel
theorem M_melts_s121 : zseg (zown M_melts) (zcode M_melts) 121 [(.goto 24, 3, 0, 0, 0), (.iinc 6 1, 3, 1, 0, 0), (.goto (-42), 3, 0, 0, 0)] 106 = true := by decide +kernel
theorem M_melts_s124 : zseg (zown M_melts) (zcode M_melts) 124 [(.aload_n 0, 1, 0, 0, 0), (.getfield 20, 3, 0, 11, 11), (.iload 5, 2, 0, 0, 0), (.iload 6, 2, 0, 0, 0), (.iastore, 1, 0, 0, 0), (.aload_n 0, 1, 0, 0, 0), (.iload_n 1, 1, 0, 0, 0), (.iload 5, 2, 0, 0, 0), (.iconst 1, 1, 1, 0, 0), (.iadd, 1, 0, 0, 0), (.iload_n 3, 1, 0, 0, 0), (.iload 4, 2, 0, 0, 0)] 142 = true := by decide +kernel
theorem M_melts_s145 : zseg (zown M_melts) (zcode M_melts) 145 [(.iinc 6 1, 3, 1, 0, 0), (.goto (-42), 3, 0, 0, 0)] 106 = true := by decide +kernel
theorem M_melts_s151 : zseg (zown M_melts) (zcode M_melts) 151 [(.aload_n 0, 1, 0, 0, 0), (.getfield 20, 3, 0, 11, 11), (.iload 5, 2, 0, 0, 0), (.iload_n 1, 1, 0, 0, 0), (.iastore, 1, 0, 0, 0)] 159 = true := by decide +kernel
theorem M_melts_d9 : decode (zcode M_melts) 9 = .ok (.if_icmp .ge 20, 3) := by decide +kernel
theorem M_melts_d20 : decode (zcode M_melts) 20 = .ok (.if_icmp .eq 9, 3) := by decide +kernel
theorem M_melts_d35 : decode (zcode M_melts) 35 = .ok (.if_icmp .lt 68, 3) := by decide +kernel
theorem M_melts_d42 : decode (zcode M_melts) 42 = .ok (.invokevirtual 273, 3) := by decide +kernel
theorem M_melts_d51 : decode (zcode M_melts) 51 = .ok (.ifCond .lt 13, 3) := by decide +kernel
theorem M_melts_d60 : decode (zcode M_melts) 60 = .ok (.if_icmp .lt 4, 3) := by decide +kernel
theorem M_melts_d63 : decode (zcode M_melts) 63 = .ok (.return_, 1) := by decide +kernel
theorem M_melts_d79 : decode (zcode M_melts) 79 = .ok (.if_icmp .ge 23, 3) := by decide +kernel
theorem M_melts_d102 : decode (zcode M_melts) 102 = .ok (.return_, 1) := by decide +kernel
theorem M_melts_d112 : decode (zcode M_melts) 112 = .ok (.if_icmp .ge 39, 3) := by decide +kernel
theorem M_melts_d118 : decode (zcode M_melts) 118 = .ok (.if_icmp .ne 6, 3) := by decide +kernel
theorem M_melts_d142 : decode (zcode M_melts) 142 = .ok (.invokevirtual 339, 3) := by decide +kernel
theorem M_melts_d159 : decode (zcode M_melts) 159 = .ok (.return_, 1) := by decide +kernel
theorem M_melt_s0 : zseg (zown M_melt) (zcode M_melt) 0 [(.aload_n 0, 1, 0, 0, 0), (.iload_n 1, 1, 0, 0, 0)] 2 = true := by decide +kernel
theorem M_melt_s8 : zseg (zown M_melt) (zcode M_melt) 8 [(.aload_n 0, 1, 0, 0, 0), (.iload_n 2, 1, 0, 0, 0)] 10 = true := by decide +kernel
theorem M_melt_s16 : zseg (zown M_melt) (zcode M_melt) 16 [(.aload_n 0, 1, 0, 0, 0), (.iload_n 3, 1, 0, 0, 0), (.iconst (-1), 1, (-1), 0, 0), (.aload_n 0, 1, 0, 0, 0), (.getfield 109, 3, 0, 11, 1), (.iconst 1, 1, 1, 0, 0), (.isub, 1, 0, 0, 0)] 25 = true := by decide +kernel
theorem M_melt_s31 : zseg (zown M_melt) (zcode M_melt) 31 [(.iconst (-1), 1, (-1), 0, 0)] 32 = true := by decide +kernel
theorem M_melt_s33 : zseg (zown M_melt) (zcode M_melt) 33 [(.aload_n 0, 1, 0, 0, 0), (.aload_n 0, 1, 0, 0, 0), (.iload_n 1, 1, 0, 0, 0)] 36 = true := by decide +kernel
theorem M_melt_s42 : zseg (zown M_melt) (zcode M_melt) 42 [(.iconst 5, 1, 5, 0, 0)] 43 = true := by decide +kernel
theorem M_melt_s46 : zseg (zown M_melt) (zcode M_melt) 46 [(.bipush (-5), 2, (-5), 0, 0)] 48 = true := by decide +kernel
theorem M_melt_s49 : zseg (zown M_melt) (zcode M_melt) 49 [(.aload_n 0, 1, 0, 0, 0), (.getfield 106, 3, 0, 11, 0), (.iconst 2, 1, 2, 0, 0)] 54 = true := by decide +kernel
theorem M_melt_s57 : zseg (zown M_melt) (zcode M_melt) 57 [(.iload_n 3, 1, 0, 0, 0)] 58 = true := by decide +kernel
theorem M_melt_s61 : zseg (zown M_melt) (zcode M_melt) 61 [(.aload_n 0, 1, 0, 0, 0), (.getfield 20, 3, 0, 11, 11), (.iload_n 3, 1, 0, 0, 0), (.iaload, 1, 0, 0, 0), (.iload_n 1, 1, 0, 0, 0)] 68 = true := by decide +kernel
theorem M_melt_s71 : zseg (zown M_melt) (zcode M_melt) 71 [(.bipush (-2), 2, (-2), 0, 0)] 73 = true := by decide +kernel
theorem M_melt_s74 : zseg (zown M_melt) (zcode M_melt) 74 [(.aload_n 0, 1, 0, 0, 0), (.iconst (-1), 1, (-1), 0, 0), (.putfield 336, 3, 0, 11, 33), (.aload_n 0, 1, 0, 0, 0), (.iload_n 1, 1, 0, 0, 0), (.iconst 0, 1, 0, 0, 0), (.iload_n 2, 1, 0, 0, 0), (.bipush 100, 2, 100, 0, 0), (.idiv, 1, 0, 0, 0), (.iload_n 2, 1, 0, 0, 0), (.bipush 100, 2, 100, 0, 0), (.irem, 1, 0, 0, 0)] 90 = true := by decide +kernel
theorem M_melt_s93 : zseg (zown M_melt) (zcode M_melt) 93 [(.iload_n 3, 1, 0, 0, 0)] 94 = true := by decide +kernel
theorem M_melt_s97 : zseg (zown M_melt) (zcode M_melt) 97 [(.aload_n 0, 1, 0, 0, 0), (.getfield 336, 3, 0, 11, 33), (.goto 9, 3, 0, 0, 0)] 110 = true := by decide +kernel
theorem M_melt_s104 : zseg (zown M_melt) (zcode M_melt) 104 [(.aload_n 0, 1, 0, 0, 0), (.getfield 69, 3, 0, 11, 32), (.iload_n 3, 1, 0, 0, 0), (.iaload, 1, 0, 0, 0)] 110 = true := by decide +kernel
theorem M_melt_d2 : decode (zcode M_melt) 2 = .ok (.invokevirtual 116, 3) := by decide +kernel
theorem M_melt_d5 : decode (zcode M_melt) 5 = .ok (.ifCond .eq 26, 3) := by decide +kernel
theorem M_melt_d10 : decode (zcode M_melt) 10 = .ok (.invokevirtual 256, 3) := by decide +kernel
theorem M_melt_d13 : decode (zcode M_melt) 13 = .ok (.ifCond .eq 18, 3) := by decide +kernel
theorem M_melt_d25 : decode (zcode M_melt) 25 = .ok (.invokevirtual 112, 3) := by decide +kernel
theorem M_melt_d28 : decode (zcode M_melt) 28 = .ok (.ifCond .ne 5, 3) := by decide +kernel
theorem M_melt_d32 : decode (zcode M_melt) 32 = .ok (.ireturn, 1) := by decide +kernel
theorem M_melt_d36 : decode (zcode M_melt) 36 = .ok (.invokevirtual 310, 3) := by decide +kernel
theorem M_melt_d39 : decode (zcode M_melt) 39 = .ok (.invokevirtual 297, 3) := by decide +kernel
theorem M_melt_d43 : decode (zcode M_melt) 43 = .ok (.if_icmp .le 6, 3) := by decide +kernel
theorem M_melt_d48 : decode (zcode M_melt) 48 = .ok (.ireturn, 1) := by decide +kernel
theorem M_melt_d54 : decode (zcode M_melt) 54 = .ok (.if_icmp .lt 17, 3) := by decide +kernel
theorem M_melt_d58 : decode (zcode M_melt) 58 = .ok (.ifCond .lt 16, 3) := by decide +kernel
theorem M_melt_d68 : decode (zcode M_melt) 68 = .ok (.if_icmp .eq 6, 3) := by decide +kernel
theorem M_melt_d73 : decode (zcode M_melt) 73 = .ok (.ireturn, 1) := by decide +kernel
theorem M_melt_d90 : decode (zcode M_melt) 90 = .ok (.invokevirtual 339, 3) := by decide +kernel
theorem M_melt_d94 : decode (zcode M_melt) 94 = .ok (.ifCond .ge 10, 3) := by decide +kernel
theorem M_melt_d110 : decode (zcode M_melt) 110 = .ok (.ireturn, 1) := by decide +kernel
theorem M_pairs_s0 : zseg (zown M_pairs) (zcode M_pairs) 0 [(.aload_n 0, 1, 0, 0, 0), (.iload_n 1, 1, 0, 0, 0)] 2 = true := by decide +kernel
theorem M_pairs_s8 : zseg (zown M_pairs) (zcode M_pairs) 8 [(.iconst (-1), 1, (-1), 0, 0)] 9 = true := by decide +kernel
theorem M_pairs_s10 : zseg (zown M_pairs) (zcode M_pairs) 10 [(.bipush (-2), 2, (-2), 0, 0), (.istore_n 2, 1, 0, 0, 0), (.aload_n 0, 1, 0, 0, 0), (.iload_n 1, 1, 0, 0, 0), (.bipush 100, 2, 100, 0, 0), (.idiv, 1, 0, 0, 0), (.iload_n 1, 1, 0, 0, 0), (.bipush 100, 2, 100, 0, 0), (.irem, 1, 0, 0, 0)] 22 = true := by decide +kernel
theorem M_pairs_s25 : zseg (zown M_pairs) (zcode M_pairs) 25 [(.istore_n 3, 1, 0, 0, 0), (.iconst 0, 1, 0, 0, 0), (.istore 4, 2, 0, 0, 0)] 29 = true := by decide +kernel
theorem M_pairs_s29 : zseg (zown M_pairs) (zcode M_pairs) 29 [(.iload 4, 2, 0, 0, 0), (.aload_n 0, 1, 0, 0, 0), (.getfield 109, 3, 0, 11, 1)] 35 = true := by decide +kernel
theorem M_pairs_s38 : zseg (zown M_pairs) (zcode M_pairs) 38 [(.iload 4, 2, 0, 0, 0), (.iconst 1, 1, 1, 0, 0), (.iadd, 1, 0, 0, 0), (.istore 5, 2, 0, 0, 0)] 44 = true := by decide +kernel
theorem M_pairs_s44 : zseg (zown M_pairs) (zcode M_pairs) 44 [(.iload 5, 2, 0, 0, 0), (.aload_n 0, 1, 0, 0, 0), (.getfield 109, 3, 0, 11, 1)] 50 = true := by decide +kernel
theorem M_pairs_s53 : zseg (zown M_pairs) (zcode M_pairs) 53 [(.aload_n 0, 1, 0, 0, 0), (.getfield 20, 3, 0, 11, 11), (.iload 4, 2, 0, 0, 0), (.iaload, 1, 0, 0, 0), (.istore 6, 2, 0, 0, 0), (.aload_n 0, 1, 0, 0, 0), (.getfield 20, 3, 0, 11, 11), (.iload 5, 2, 0, 0, 0), (.iaload, 1, 0, 0, 0), (.istore 7, 2, 0, 0, 0), (.iload 6, 2, 0, 0, 0), (.iload 7, 2, 0, 0, 0)] 75 = true := by decide +kernel
theorem M_pairs_s78 : zseg (zown M_pairs) (zcode M_pairs) 78 [(.goto 74, 3, 0, 0, 0), (.iinc 5 1, 3, 1, 0, 0), (.goto (-111), 3, 0, 0, 0)] 44 = true := by decide +kernel
theorem M_pairs_s81 : zseg (zown M_pairs) (zcode M_pairs) 81 [(.aload_n 0, 1, 0, 0, 0), (.getfield 20, 3, 0, 11, 11), (.iload 4, 2, 0, 0, 0), (.iload 7, 2, 0, 0, 0), (.iastore, 1, 0, 0, 0), (.aload_n 0, 1, 0, 0, 0), (.getfield 20, 3, 0, 11, 11), (.iload 5, 2, 0, 0, 0), (.iload 6, 2, 0, 0, 0), (.iastore, 1, 0, 0, 0), (.aload_n 0, 1, 0, 0, 0), (.iload_n 1, 1, 0, 0, 0), (.bipush 100, 2, 100, 0, 0), (.idiv, 1, 0, 0, 0), (.iload_n 1, 1, 0, 0, 0), (.bipush 100, 2, 100, 0, 0), (.irem, 1, 0, 0, 0)] 108 = true := by decide +kernel
theorem M_pairs_s111 : zseg (zown M_pairs) (zcode M_pairs) 111 [(.istore 8, 2, 0, 0, 0), (.aload_n 0, 1, 0, 0, 0), (.getfield 20, 3, 0, 11, 11), (.iload 4, 2, 0, 0, 0), (.iload 6, 2, 0, 0, 0), (.iastore, 1, 0, 0, 0), (.aload_n 0, 1, 0, 0, 0), (.getfield 20, 3, 0, 11, 11), (.iload 5, 2, 0, 0, 0), (.iload 7, 2, 0, 0, 0), (.iastore, 1, 0, 0, 0), (.iload 8, 2, 0, 0, 0), (.iload_n 3, 1, 0, 0, 0)] 134 = true := by decide +kernel
theorem M_pairs_s137 : zseg (zown M_pairs) (zcode M_pairs) 137 [(.goto 15, 3, 0, 0, 0), (.iinc 5 1, 3, 1, 0, 0), (.goto (-111), 3, 0, 0, 0)] 44 = true := by decide +kernel
theorem M_pairs_s140 : zseg (zown M_pairs) (zcode M_pairs) 140 [(.bipush 20, 2, 20, 0, 0), (.iload 4, 2, 0, 0, 0), (.imul, 1, 0, 0, 0), (.iload 5, 2, 0, 0, 0), (.iadd, 1, 0, 0, 0), (.istore_n 2, 1, 0, 0, 0), (.iload 8, 2, 0, 0, 0), (.istore_n 3, 1, 0, 0, 0), (.iinc 5 1, 3, 1, 0, 0), (.goto (-111), 3, 0, 0, 0)] 44 = true := by decide +kernel
theorem M_pairs_s158 : zseg (zown M_pairs) (zcode M_pairs) 158 [(.iinc 4 1, 3, 1, 0, 0), (.goto (-132), 3, 0, 0, 0)] 29 = true := by decide +kernel
theorem M_pairs_s164 : zseg (zown M_pairs) (zcode M_pairs) 164 [(.iload_n 2, 1, 0, 0, 0)] 165 = true := by decide +kernel
theorem M_pairs_d2 : decode (zcode M_pairs) 2 = .ok (.invokevirtual 256, 3) := by decide +kernel
theorem M_pairs_d5 : decode (zcode M_pairs) 5 = .ok (.ifCond .ne 5, 3) := by decide +kernel
theorem M_pairs_d9 : decode (zcode M_pairs) 9 = .ok (.ireturn, 1) := by decide +kernel
theorem M_pairs_d22 : decode (zcode M_pairs) 22 = .ok (.invokevirtual 273, 3) := by decide +kernel
theorem M_pairs_d35 : decode (zcode M_pairs) 35 = .ok (.if_icmp .ge 129, 3) := by decide +kernel
theorem M_pairs_d50 : decode (zcode M_pairs) 50 = .ok (.if_icmp .ge 108, 3) := by decide +kernel
theorem M_pairs_d75 : decode (zcode M_pairs) 75 = .ok (.if_icmp .ne 6, 3) := by decide +kernel
theorem M_pairs_d108 : decode (zcode M_pairs) 108 = .ok (.invokevirtual 273, 3) := by decide +kernel
theorem M_pairs_d134 : decode (zcode M_pairs) 134 = .ok (.if_icmp .lt 6, 3) := by decide +kernel
theorem M_pairs_d165 : decode (zcode M_pairs) 165 = .ok (.ireturn, 1) := by decide +kernel
theorem M_drawn_s0 : zseg (zown M_drawn) (zcode M_drawn) 0 [(.iload_n 2, 1, 0, 0, 0), (.bipush 100, 2, 100, 0, 0), (.idiv, 1, 0, 0, 0), (.istore 5, 2, 0, 0, 0), (.iload_n 2, 1, 0, 0, 0), (.bipush 100, 2, 100, 0, 0), (.irem, 1, 0, 0, 0), (.istore 6, 2, 0, 0, 0), (.iload_n 2, 1, 0, 0, 0)] 13 = true := by decide +kernel
theorem M_drawn_s16 : zseg (zown M_drawn) (zcode M_drawn) 16 [(.aload_n 0, 1, 0, 0, 0), (.iload 5, 2, 0, 0, 0), (.iconst 1, 1, 1, 0, 0), (.bipush 20, 2, 20, 0, 0)] 22 = true := by decide +kernel
theorem M_drawn_s28 : zseg (zown M_drawn) (zcode M_drawn) 28 [(.iload 6, 2, 0, 0, 0), (.iconst 1, 1, 1, 0, 0)] 31 = true := by decide +kernel
theorem M_drawn_s34 : zseg (zown M_drawn) (zcode M_drawn) 34 [(.iload_n 3, 1, 0, 0, 0)] 35 = true := by decide +kernel
theorem M_drawn_s38 : zseg (zown M_drawn) (zcode M_drawn) 38 [(.iload_n 3, 1, 0, 0, 0), (.sipush 998, 3, 998, 0, 0)] 42 = true := by decide +kernel
theorem M_drawn_s45 : zseg (zown M_drawn) (zcode M_drawn) 45 [(.iload_n 3, 1, 0, 0, 0), (.iload 6, 2, 0, 0, 0), (.iadd, 1, 0, 0, 0), (.iconst 1, 1, 1, 0, 0), (.isub, 1, 0, 0, 0), (.sipush 998, 3, 998, 0, 0)] 54 = true := by decide +kernel
theorem M_drawn_s57 : zseg (zown M_drawn) (zcode M_drawn) 57 [(.aload_n 0, 1, 0, 0, 0), (.iload 4, 2, 0, 0, 0), (.iconst 0, 1, 0, 0, 0), (.iconst 1, 1, 1, 0, 0)] 62 = true := by decide +kernel
theorem M_drawn_s68 : zseg (zown M_drawn) (zcode M_drawn) 68 [(.iconst (-1), 1, (-1), 0, 0)] 69 = true := by decide +kernel
theorem M_drawn_s70 : zseg (zown M_drawn) (zcode M_drawn) 70 [(.iload_n 1, 1, 0, 0, 0), (.istore 7, 2, 0, 0, 0), (.iconst 0, 1, 0, 0, 0), (.istore 8, 2, 0, 0, 0), (.iconst 0, 1, 0, 0, 0), (.istore 9, 2, 0, 0, 0), (.iconst 0, 1, 0, 0, 0), (.istore 10, 2, 0, 0, 0)] 82 = true := by decide +kernel
theorem M_drawn_s82 : zseg (zown M_drawn) (zcode M_drawn) 82 [(.iload 10, 2, 0, 0, 0), (.iload 5, 2, 0, 0, 0)] 86 = true := by decide +kernel
theorem M_drawn_s89 : zseg (zown M_drawn) (zcode M_drawn) 89 [(.iconst 0, 1, 0, 0, 0), (.istore 11, 2, 0, 0, 0)] 92 = true := by decide +kernel
theorem M_drawn_s92 : zseg (zown M_drawn) (zcode M_drawn) 92 [(.iload 11, 2, 0, 0, 0), (.aload_n 0, 1, 0, 0, 0), (.getfield 109, 3, 0, 11, 1)] 98 = true := by decide +kernel
theorem M_drawn_s101 : zseg (zown M_drawn) (zcode M_drawn) 101 [(.aload_n 0, 1, 0, 0, 0), (.getfield 72, 3, 0, 11, 34), (.iload 11, 2, 0, 0, 0), (.sipush 999, 3, 999, 0, 0), (.iastore, 1, 0, 0, 0), (.iinc 11 1, 3, 1, 0, 0), (.goto (-22), 3, 0, 0, 0)] 92 = true := by decide +kernel
theorem M_drawn_s117 : zseg (zown M_drawn) (zcode M_drawn) 117 [(.iconst 0, 1, 0, 0, 0), (.istore 11, 2, 0, 0, 0)] 120 = true := by decide +kernel
theorem M_drawn_s120 : zseg (zown M_drawn) (zcode M_drawn) 120 [(.iload 11, 2, 0, 0, 0), (.iload 6, 2, 0, 0, 0)] 124 = true := by decide +kernel
theorem M_drawn_s127 : zseg (zown M_drawn) (zcode M_drawn) 127 [(.iconst 0, 1, 0, 0, 0), (.istore 12, 2, 0, 0, 0)] 130 = true := by decide +kernel
theorem M_drawn_s130 : zseg (zown M_drawn) (zcode M_drawn) 130 [(.iload 12, 2, 0, 0, 0), (.aload_n 0, 1, 0, 0, 0), (.getfield 109, 3, 0, 11, 1)] 136 = true := by decide +kernel
theorem M_drawn_s139 : zseg (zown M_drawn) (zcode M_drawn) 139 [(.iload 7, 2, 0, 0, 0), (.ldc_w 342, 3, 1103515245, 0, 0), (.imul, 1, 0, 0, 0), (.sipush 12345, 3, 12345, 0, 0), (.iadd, 1, 0, 0, 0), (.istore 7, 2, 0, 0, 0), (.iload 7, 2, 0, 0, 0), (.bipush 8, 2, 8, 0, 0), (.iushr, 1, 0, 0, 0), (.bipush 12, 2, 12, 0, 0), (.irem, 1, 0, 0, 0), (.aload_n 0, 1, 0, 0, 0), (.getfield 7, 3, 0, 11, 2)] 163 = true := by decide +kernel
theorem M_drawn_s166 : zseg (zown M_drawn) (zcode M_drawn) 166 [(.aload_n 0, 1, 0, 0, 0), (.getfield 72, 3, 0, 11, 34), (.iload 12, 2, 0, 0, 0), (.aload_n 0, 1, 0, 0, 0), (.getfield 72, 3, 0, 11, 34), (.iload 12, 2, 0, 0, 0), (.iaload, 1, 0, 0, 0), (.sipush 999, 3, 999, 0, 0)] 182 = true := by decide +kernel
theorem M_drawn_s185 : zseg (zown M_drawn) (zcode M_drawn) 185 [(.iload_n 3, 1, 0, 0, 0), (.iload 11, 2, 0, 0, 0), (.iadd, 1, 0, 0, 0), (.goto 6, 3, 0, 0, 0), (.iastore, 1, 0, 0, 0), (.iinc 12 1, 3, 1, 0, 0), (.goto (-69), 3, 0, 0, 0)] 130 = true := by decide +kernel
theorem M_drawn_s192 : zseg (zown M_drawn) (zcode M_drawn) 192 [(.sipush 999, 3, 999, 0, 0), (.iastore, 1, 0, 0, 0), (.iinc 12 1, 3, 1, 0, 0), (.goto (-69), 3, 0, 0, 0)] 130 = true := by decide +kernel
theorem M_drawn_s196 : zseg (zown M_drawn) (zcode M_drawn) 196 [(.iinc 12 1, 3, 1, 0, 0), (.goto (-69), 3, 0, 0, 0)] 130 = true := by decide +kernel
theorem M_drawn_s202 : zseg (zown M_drawn) (zcode M_drawn) 202 [(.iinc 11 1, 3, 1, 0, 0), (.goto (-85), 3, 0, 0, 0)] 120 = true := by decide +kernel
theorem M_drawn_s208 : zseg (zown M_drawn) (zcode M_drawn) 208 [(.iconst 0, 1, 0, 0, 0), (.istore 11, 2, 0, 0, 0)] 211 = true := by decide +kernel
theorem M_drawn_s211 : zseg (zown M_drawn) (zcode M_drawn) 211 [(.iload 11, 2, 0, 0, 0), (.aload_n 0, 1, 0, 0, 0), (.getfield 106, 3, 0, 11, 0)] 217 = true := by decide +kernel
theorem M_drawn_s220 : zseg (zown M_drawn) (zcode M_drawn) 220 [(.iconst 0, 1, 0, 0, 0), (.istore 12, 2, 0, 0, 0), (.iconst 0, 1, 0, 0, 0), (.istore 13, 2, 0, 0, 0)] 226 = true := by decide +kernel
theorem M_drawn_s226 : zseg (zown M_drawn) (zcode M_drawn) 226 [(.iload 13, 2, 0, 0, 0), (.aload_n 0, 1, 0, 0, 0), (.getfield 109, 3, 0, 11, 1)] 232 = true := by decide +kernel
theorem M_drawn_s235 : zseg (zown M_drawn) (zcode M_drawn) 235 [(.aload_n 0, 1, 0, 0, 0), (.getfield 20, 3, 0, 11, 11), (.iload 13, 2, 0, 0, 0), (.iaload, 1, 0, 0, 0), (.iload 11, 2, 0, 0, 0)] 244 = true := by decide +kernel
theorem M_drawn_s247 : zseg (zown M_drawn) (zcode M_drawn) 247 [(.iload 12, 2, 0, 0, 0), (.aload_n 0, 1, 0, 0, 0), (.iload 13, 2, 0, 0, 0), (.iload 11, 2, 0, 0, 0), (.aload_n 0, 1, 0, 0, 0), (.getfield 72, 3, 0, 11, 34), (.iload 13, 2, 0, 0, 0), (.iaload, 1, 0, 0, 0), (.sipush 999, 3, 999, 0, 0)] 264 = true := by decide +kernel
theorem M_drawn_s267 : zseg (zown M_drawn) (zcode M_drawn) 267 [(.iconst 1, 1, 1, 0, 0), (.goto 4, 3, 0, 0, 0), (.iload_n 3, 1, 0, 0, 0), (.iload 6, 2, 0, 0, 0), (.iadd, 1, 0, 0, 0), (.iconst 1, 1, 1, 0, 0), (.isub, 1, 0, 0, 0), (.aload_n 0, 1, 0, 0, 0), (.getfield 72, 3, 0, 11, 34), (.iload 13, 2, 0, 0, 0), (.iaload, 1, 0, 0, 0), (.isub, 1, 0, 0, 0), (.bipush 12, 2, 12, 0, 0)] 288 = true := by decide +kernel
theorem M_drawn_s271 : zseg (zown M_drawn) (zcode M_drawn) 271 [(.iconst 0, 1, 0, 0, 0), (.iload_n 3, 1, 0, 0, 0), (.iload 6, 2, 0, 0, 0), (.iadd, 1, 0, 0, 0), (.iconst 1, 1, 1, 0, 0), (.isub, 1, 0, 0, 0), (.aload_n 0, 1, 0, 0, 0), (.getfield 72, 3, 0, 11, 34), (.iload 13, 2, 0, 0, 0), (.iaload, 1, 0, 0, 0), (.isub, 1, 0, 0, 0), (.bipush 12, 2, 12, 0, 0)] 288 = true := by decide +kernel
theorem M_drawn_s291 : zseg (zown M_drawn) (zcode M_drawn) 291 [(.iadd, 1, 0, 0, 0), (.istore 12, 2, 0, 0, 0), (.iinc 13 1, 3, 1, 0, 0), (.goto (-71), 3, 0, 0, 0)] 226 = true := by decide +kernel
theorem M_drawn_s294 : zseg (zown M_drawn) (zcode M_drawn) 294 [(.iinc 13 1, 3, 1, 0, 0), (.goto (-71), 3, 0, 0, 0)] 226 = true := by decide +kernel
theorem M_drawn_s300 : zseg (zown M_drawn) (zcode M_drawn) 300 [(.iload 8, 2, 0, 0, 0), (.aload_n 0, 1, 0, 0, 0), (.iload 12, 2, 0, 0, 0)] 305 = true := by decide +kernel
theorem M_drawn_s308 : zseg (zown M_drawn) (zcode M_drawn) 308 [(.iconst 1, 1, 1, 0, 0), (.goto 4, 3, 0, 0, 0)] 313 = true := by decide +kernel
theorem M_drawn_s312 : zseg (zown M_drawn) (zcode M_drawn) 312 [(.iconst 0, 1, 0, 0, 0)] 313 = true := by decide +kernel
theorem M_drawn_s316 : zseg (zown M_drawn) (zcode M_drawn) 316 [(.iadd, 1, 0, 0, 0), (.istore 8, 2, 0, 0, 0), (.iinc 11 1, 3, 1, 0, 0), (.goto (-111), 3, 0, 0, 0)] 211 = true := by decide +kernel
theorem M_drawn_s325 : zseg (zown M_drawn) (zcode M_drawn) 325 [(.iconst 0, 1, 0, 0, 0), (.istore 11, 2, 0, 0, 0)] 328 = true := by decide +kernel
theorem M_drawn_s328 : zseg (zown M_drawn) (zcode M_drawn) 328 [(.iload 11, 2, 0, 0, 0), (.aload_n 0, 1, 0, 0, 0), (.getfield 109, 3, 0, 11, 1)] 334 = true := by decide +kernel
theorem M_drawn_s337 : zseg (zown M_drawn) (zcode M_drawn) 337 [(.iload 9, 2, 0, 0, 0), (.aload_n 0, 1, 0, 0, 0), (.aload_n 0, 1, 0, 0, 0), (.getfield 72, 3, 0, 11, 34), (.iload 11, 2, 0, 0, 0), (.iaload, 1, 0, 0, 0), (.sipush 999, 3, 999, 0, 0)] 350 = true := by decide +kernel
theorem M_drawn_s353 : zseg (zown M_drawn) (zcode M_drawn) 353 [(.iconst 1, 1, 1, 0, 0), (.goto 4, 3, 0, 0, 0)] 358 = true := by decide +kernel
theorem M_drawn_s357 : zseg (zown M_drawn) (zcode M_drawn) 357 [(.iconst 0, 1, 0, 0, 0)] 358 = true := by decide +kernel
theorem M_drawn_s361 : zseg (zown M_drawn) (zcode M_drawn) 361 [(.iadd, 1, 0, 0, 0), (.istore 9, 2, 0, 0, 0), (.iinc 11 1, 3, 1, 0, 0), (.goto (-39), 3, 0, 0, 0)] 328 = true := by decide +kernel
theorem M_drawn_s370 : zseg (zown M_drawn) (zcode M_drawn) 370 [(.iinc 10 1, 3, 1, 0, 0), (.goto (-291), 3, 0, 0, 0)] 82 = true := by decide +kernel
theorem M_drawn_s376 : zseg (zown M_drawn) (zcode M_drawn) 376 [(.iload 4, 2, 0, 0, 0)] 378 = true := by decide +kernel
theorem M_drawn_s381 : zseg (zown M_drawn) (zcode M_drawn) 381 [(.iload 8, 2, 0, 0, 0), (.goto 5, 3, 0, 0, 0)] 388 = true := by decide +kernel
theorem M_drawn_s386 : zseg (zown M_drawn) (zcode M_drawn) 386 [(.iload 9, 2, 0, 0, 0)] 388 = true := by decide +kernel
theorem M_drawn_d13 : decode (zcode M_drawn) 13 = .ok (.ifCond .lt 55, 3) := by decide +kernel
theorem M_drawn_d22 : decode (zcode M_drawn) 22 = .ok (.invokevirtual 112, 3) := by decide +kernel
theorem M_drawn_d25 : decode (zcode M_drawn) 25 = .ok (.ifCond .eq 43, 3) := by decide +kernel
theorem M_drawn_d31 : decode (zcode M_drawn) 31 = .ok (.if_icmp .lt 37, 3) := by decide +kernel
theorem M_drawn_d35 : decode (zcode M_drawn) 35 = .ok (.ifCond .lt 33, 3) := by decide +kernel
theorem M_drawn_d42 : decode (zcode M_drawn) 42 = .ok (.if_icmp .gt 26, 3) := by decide +kernel
theorem M_drawn_d54 : decode (zcode M_drawn) 54 = .ok (.if_icmp .gt 14, 3) := by decide +kernel
theorem M_drawn_d62 : decode (zcode M_drawn) 62 = .ok (.invokevirtual 112, 3) := by decide +kernel
theorem M_drawn_d65 : decode (zcode M_drawn) 65 = .ok (.ifCond .ne 5, 3) := by decide +kernel
theorem M_drawn_d69 : decode (zcode M_drawn) 69 = .ok (.ireturn, 1) := by decide +kernel
theorem M_drawn_d86 : decode (zcode M_drawn) 86 = .ok (.if_icmp .ge 290, 3) := by decide +kernel
theorem M_drawn_d98 : decode (zcode M_drawn) 98 = .ok (.if_icmp .ge 19, 3) := by decide +kernel
theorem M_drawn_d124 : decode (zcode M_drawn) 124 = .ok (.if_icmp .ge 84, 3) := by decide +kernel
theorem M_drawn_d136 : decode (zcode M_drawn) 136 = .ok (.if_icmp .ge 66, 3) := by decide +kernel
theorem M_drawn_d163 : decode (zcode M_drawn) 163 = .ok (.if_icmp .ge 33, 3) := by decide +kernel
theorem M_drawn_d182 : decode (zcode M_drawn) 182 = .ok (.if_icmp .ne 10, 3) := by decide +kernel
theorem M_drawn_d217 : decode (zcode M_drawn) 217 = .ok (.if_icmp .ge 108, 3) := by decide +kernel
theorem M_drawn_d232 : decode (zcode M_drawn) 232 = .ok (.if_icmp .ge 68, 3) := by decide +kernel
theorem M_drawn_d244 : decode (zcode M_drawn) 244 = .ok (.if_icmp .ne 50, 3) := by decide +kernel
theorem M_drawn_d264 : decode (zcode M_drawn) 264 = .ok (.if_icmp .ne 7, 3) := by decide +kernel
theorem M_drawn_d288 : decode (zcode M_drawn) 288 = .ok (.invokevirtual 252, 3) := by decide +kernel
theorem M_drawn_d305 : decode (zcode M_drawn) 305 = .ok (.ifCond .eq 7, 3) := by decide +kernel
theorem M_drawn_d313 : decode (zcode M_drawn) 313 = .ok (.invokevirtual 167, 3) := by decide +kernel
theorem M_drawn_d334 : decode (zcode M_drawn) 334 = .ok (.if_icmp .ge 36, 3) := by decide +kernel
theorem M_drawn_d350 : decode (zcode M_drawn) 350 = .ok (.if_icmp .eq 7, 3) := by decide +kernel
theorem M_drawn_d358 : decode (zcode M_drawn) 358 = .ok (.invokevirtual 167, 3) := by decide +kernel
theorem M_drawn_d378 : decode (zcode M_drawn) 378 = .ok (.ifCond .ne 8, 3) := by decide +kernel
theorem M_drawn_d388 : decode (zcode M_drawn) 388 = .ok (.ireturn, 1) := by decide +kernel
theorem M_breaks_s0 : zseg (zown M_breaks) (zcode M_breaks) 0 [(.aload_n 0, 1, 0, 0, 0), (.iload_n 1, 1, 0, 0, 0)] 2 = true := by decide +kernel
theorem M_breaks_s8 : zseg (zown M_breaks) (zcode M_breaks) 8 [(.iconst (-1), 1, (-1), 0, 0)] 9 = true := by decide +kernel
theorem M_breaks_s10 : zseg (zown M_breaks) (zcode M_breaks) 10 [(.aload_n 0, 1, 0, 0, 0), (.iload_n 1, 1, 0, 0, 0), (.aload_n 0, 1, 0, 0, 0), (.getfield 161, 3, 0, 11, 3)] 16 = true := by decide +kernel
theorem M_breaks_s22 : zseg (zown M_breaks) (zcode M_breaks) 22 [(.iconst 0, 1, 0, 0, 0)] 23 = true := by decide +kernel
theorem M_breaks_s24 : zseg (zown M_breaks) (zcode M_breaks) 24 [(.aload_n 0, 1, 0, 0, 0), (.getfield 29, 3, 0, 11, 14), (.iload_n 1, 1, 0, 0, 0), (.aload_n 0, 1, 0, 0, 0), (.getfield 161, 3, 0, 11, 3), (.iastore, 1, 0, 0, 0), (.aload_n 0, 1, 0, 0, 0), (.getfield 32, 3, 0, 11, 15), (.iload_n 1, 1, 0, 0, 0), (.sipush 999, 3, 999, 0, 0), (.iastore, 1, 0, 0, 0), (.aload_n 0, 1, 0, 0, 0), (.dup, 1, 0, 0, 0), (.getfield 343, 3, 0, 11, 35), (.iconst 1, 1, 1, 0, 0), (.iadd, 1, 0, 0, 0), (.putfield 343, 3, 0, 11, 35), (.iconst 1, 1, 1, 0, 0)] 54 = true := by decide +kernel
theorem M_breaks_d2 : decode (zcode M_breaks) 2 = .ok (.invokevirtual 131, 3) := by decide +kernel
theorem M_breaks_d5 : decode (zcode M_breaks) 5 = .ok (.ifCond .ne 5, 3) := by decide +kernel
theorem M_breaks_d9 : decode (zcode M_breaks) 9 = .ok (.ireturn, 1) := by decide +kernel
theorem M_breaks_d16 : decode (zcode M_breaks) 16 = .ok (.invokevirtual 164, 3) := by decide +kernel
theorem M_breaks_d19 : decode (zcode M_breaks) 19 = .ok (.ifCond .ne 5, 3) := by decide +kernel
theorem M_breaks_d23 : decode (zcode M_breaks) 23 = .ok (.ireturn, 1) := by decide +kernel
theorem M_breaks_d54 : decode (zcode M_breaks) 54 = .ok (.ireturn, 1) := by decide +kernel
theorem M_keeps_s0 : zseg (zown M_keeps) (zcode M_keeps) 0 [(.aload_n 0, 1, 0, 0, 0), (.iload_n 1, 1, 0, 0, 0)] 2 = true := by decide +kernel
theorem M_keeps_s8 : zseg (zown M_keeps) (zcode M_keeps) 8 [(.iconst (-1), 1, (-1), 0, 0)] 9 = true := by decide +kernel
theorem M_keeps_s10 : zseg (zown M_keeps) (zcode M_keeps) 10 [(.aload_n 0, 1, 0, 0, 0), (.iload_n 1, 1, 0, 0, 0), (.aload_n 0, 1, 0, 0, 0), (.getfield 161, 3, 0, 11, 3)] 16 = true := by decide +kernel
theorem M_keeps_s22 : zseg (zown M_keeps) (zcode M_keeps) 22 [(.iconst 0, 1, 0, 0, 0)] 23 = true := by decide +kernel
theorem M_keeps_s24 : zseg (zown M_keeps) (zcode M_keeps) 24 [(.aload_n 0, 1, 0, 0, 0), (.getfield 29, 3, 0, 11, 14), (.iload_n 1, 1, 0, 0, 0), (.iaload, 1, 0, 0, 0), (.aload_n 0, 1, 0, 0, 0), (.getfield 161, 3, 0, 11, 3)] 34 = true := by decide +kernel
theorem M_keeps_s37 : zseg (zown M_keeps) (zcode M_keeps) 37 [(.bipush (-5), 2, (-5), 0, 0)] 39 = true := by decide +kernel
theorem M_keeps_s40 : zseg (zown M_keeps) (zcode M_keeps) 40 [(.aload_n 0, 1, 0, 0, 0), (.getfield 32, 3, 0, 11, 15), (.iload_n 1, 1, 0, 0, 0), (.aload_n 0, 1, 0, 0, 0), (.getfield 161, 3, 0, 11, 3), (.iastore, 1, 0, 0, 0), (.aload_n 0, 1, 0, 0, 0), (.dup, 1, 0, 0, 0), (.getfield 346, 3, 0, 11, 36), (.iconst 1, 1, 1, 0, 0), (.iadd, 1, 0, 0, 0), (.putfield 346, 3, 0, 11, 36), (.iconst 1, 1, 1, 0, 0)] 61 = true := by decide +kernel
theorem M_keeps_d2 : decode (zcode M_keeps) 2 = .ok (.invokevirtual 131, 3) := by decide +kernel
theorem M_keeps_d5 : decode (zcode M_keeps) 5 = .ok (.ifCond .ne 5, 3) := by decide +kernel
theorem M_keeps_d9 : decode (zcode M_keeps) 9 = .ok (.ireturn, 1) := by decide +kernel
theorem M_keeps_d16 : decode (zcode M_keeps) 16 = .ok (.invokevirtual 164, 3) := by decide +kernel
theorem M_keeps_d19 : decode (zcode M_keeps) 19 = .ok (.ifCond .eq 5, 3) := by decide +kernel
theorem M_keeps_d23 : decode (zcode M_keeps) 23 = .ok (.ireturn, 1) := by decide +kernel
theorem M_keeps_d34 : decode (zcode M_keeps) 34 = .ok (.if_icmp .ne 6, 3) := by decide +kernel
theorem M_keeps_d39 : decode (zcode M_keeps) 39 = .ok (.ireturn, 1) := by decide +kernel
theorem M_keeps_d61 : decode (zcode M_keeps) 61 = .ok (.ireturn, 1) := by decide +kernel
theorem M_pass_s0 : zseg (zown M_pass) (zcode M_pass) 0 [(.aload_n 0, 1, 0, 0, 0), (.iload_n 1, 1, 0, 0, 0), (.iconst 1, 1, 1, 0, 0), (.bipush 99, 2, 99, 0, 0)] 5 = true := by decide +kernel
theorem M_pass_s11 : zseg (zown M_pass) (zcode M_pass) 11 [(.iconst (-1), 1, (-1), 0, 0)] 12 = true := by decide +kernel
theorem M_pass_s13 : zseg (zown M_pass) (zcode M_pass) 13 [(.aload_n 0, 1, 0, 0, 0), (.getfield 161, 3, 0, 11, 3), (.iload_n 1, 1, 0, 0, 0), (.iadd, 1, 0, 0, 0), (.sipush 998, 3, 998, 0, 0)] 22 = true := by decide +kernel
theorem M_pass_s25 : zseg (zown M_pass) (zcode M_pass) 25 [(.bipush (-5), 2, (-5), 0, 0)] 27 = true := by decide +kernel
theorem M_pass_s28 : zseg (zown M_pass) (zcode M_pass) 28 [(.aload_n 0, 1, 0, 0, 0), (.dup, 1, 0, 0, 0), (.getfield 161, 3, 0, 11, 3), (.iload_n 1, 1, 0, 0, 0), (.iadd, 1, 0, 0, 0), (.putfield 161, 3, 0, 11, 3), (.aload_n 0, 1, 0, 0, 0), (.getfield 161, 3, 0, 11, 3)] 42 = true := by decide +kernel
theorem M_pass_d5 : decode (zcode M_pass) 5 = .ok (.invokevirtual 112, 3) := by decide +kernel
theorem M_pass_d8 : decode (zcode M_pass) 8 = .ok (.ifCond .ne 5, 3) := by decide +kernel
theorem M_pass_d12 : decode (zcode M_pass) 12 = .ok (.ireturn, 1) := by decide +kernel
theorem M_pass_d22 : decode (zcode M_pass) 22 = .ok (.if_icmp .le 6, 3) := by decide +kernel
theorem M_pass_d27 : decode (zcode M_pass) 27 = .ok (.ireturn, 1) := by decide +kernel
theorem M_pass_d42 : decode (zcode M_pass) 42 = .ok (.ireturn, 1) := by decide +kernel
theorem M_ring_s0 : zseg (zown M_ring) (zcode M_ring) 0 [(.aload_n 0, 1, 0, 0, 0), (.iload_n 1, 1, 0, 0, 0)] 2 = true := by decide +kernel
theorem M_ring_s8 : zseg (zown M_ring) (zcode M_ring) 8 [(.aload_n 0, 1, 0, 0, 0), (.iload_n 2, 1, 0, 0, 0), (.iconst 0, 1, 0, 0, 0), (.bipush 23, 2, 23, 0, 0)] 13 = true := by decide +kernel
theorem M_ring_s19 : zseg (zown M_ring) (zcode M_ring) 19 [(.ldc_w 263, 3, (-2000000000), 0, 0)] 22 = true := by decide +kernel
theorem M_ring_s23 : zseg (zown M_ring) (zcode M_ring) 23 [(.aload_n 0, 1, 0, 0, 0), (.iload_n 1, 1, 0, 0, 0), (.aload_n 0, 1, 0, 0, 0), (.getfield 161, 3, 0, 11, 3), (.iload_n 2, 1, 0, 0, 0)] 30 = true := by decide +kernel
theorem M_ring_s33 : zseg (zown M_ring) (zcode M_ring) 33 [(.istore_n 3, 1, 0, 0, 0), (.aload_n 0, 1, 0, 0, 0), (.dup, 1, 0, 0, 0), (.getfield 349, 3, 0, 11, 37), (.iconst 1, 1, 1, 0, 0), (.iadd, 1, 0, 0, 0), (.putfield 349, 3, 0, 11, 37), (.aload_n 0, 1, 0, 0, 0), (.dup, 1, 0, 0, 0), (.getfield 352, 3, 0, 11, 38), (.aload_n 0, 1, 0, 0, 0), (.iload_n 3, 1, 0, 0, 0)] 51 = true := by decide +kernel
theorem M_ring_s54 : zseg (zown M_ring) (zcode M_ring) 54 [(.iconst 1, 1, 1, 0, 0), (.goto 4, 3, 0, 0, 0)] 59 = true := by decide +kernel
theorem M_ring_s58 : zseg (zown M_ring) (zcode M_ring) 58 [(.iconst 0, 1, 0, 0, 0)] 59 = true := by decide +kernel
theorem M_ring_s62 : zseg (zown M_ring) (zcode M_ring) 62 [(.iadd, 1, 0, 0, 0), (.putfield 352, 3, 0, 11, 38), (.aload_n 0, 1, 0, 0, 0), (.getfield 13, 3, 0, 11, 9), (.iload_n 1, 1, 0, 0, 0), (.iaload, 1, 0, 0, 0), (.iload_n 3, 1, 0, 0, 0), (.iadd, 1, 0, 0, 0)] 74 = true := by decide +kernel
theorem M_ring_d2 : decode (zcode M_ring) 2 = .ok (.invokevirtual 116, 3) := by decide +kernel
theorem M_ring_d5 : decode (zcode M_ring) 5 = .ok (.ifCond .eq 14, 3) := by decide +kernel
theorem M_ring_d13 : decode (zcode M_ring) 13 = .ok (.invokevirtual 112, 3) := by decide +kernel
theorem M_ring_d16 : decode (zcode M_ring) 16 = .ok (.ifCond .ne 7, 3) := by decide +kernel
theorem M_ring_d22 : decode (zcode M_ring) 22 = .ok (.ireturn, 1) := by decide +kernel
theorem M_ring_d30 : decode (zcode M_ring) 30 = .ok (.invokevirtual 264, 3) := by decide +kernel
theorem M_ring_d51 : decode (zcode M_ring) 51 = .ok (.ifCond .eq 7, 3) := by decide +kernel
theorem M_ring_d59 : decode (zcode M_ring) 59 = .ok (.invokevirtual 167, 3) := by decide +kernel
theorem M_ring_d74 : decode (zcode M_ring) 74 = .ok (.ireturn, 1) := by decide +kernel
theorem M_led_s0 : zseg (zown M_led) (zcode M_led) 0 [(.iload_n 1, 1, 0, 0, 0)] 1 = true := by decide +kernel
theorem M_led_s36 : zseg (zown M_led) (zcode M_led) 36 [(.aload_n 0, 1, 0, 0, 0), (.getfield 343, 3, 0, 11, 35)] 40 = true := by decide +kernel
theorem M_led_s41 : zseg (zown M_led) (zcode M_led) 41 [(.aload_n 0, 1, 0, 0, 0), (.getfield 346, 3, 0, 11, 36)] 45 = true := by decide +kernel
theorem M_led_s46 : zseg (zown M_led) (zcode M_led) 46 [(.aload_n 0, 1, 0, 0, 0), (.getfield 349, 3, 0, 11, 37)] 50 = true := by decide +kernel
theorem M_led_s51 : zseg (zown M_led) (zcode M_led) 51 [(.aload_n 0, 1, 0, 0, 0), (.getfield 352, 3, 0, 11, 38)] 55 = true := by decide +kernel
theorem M_led_s56 : zseg (zown M_led) (zcode M_led) 56 [(.aload_n 0, 1, 0, 0, 0), (.getfield 161, 3, 0, 11, 3)] 60 = true := by decide +kernel
theorem M_led_s61 : zseg (zown M_led) (zcode M_led) 61 [(.iconst (-1), 1, (-1), 0, 0)] 62 = true := by decide +kernel
theorem M_led_d1 : decode (zcode M_led) 1 = .ok (.tableswitch 60 0 4 #[35, 40, 45, 50, 55], 35) := by decide +kernel
theorem M_led_d40 : decode (zcode M_led) 40 = .ok (.ireturn, 1) := by decide +kernel
theorem M_led_d45 : decode (zcode M_led) 45 = .ok (.ireturn, 1) := by decide +kernel
theorem M_led_d50 : decode (zcode M_led) 50 = .ok (.ireturn, 1) := by decide +kernel
theorem M_led_d55 : decode (zcode M_led) 55 = .ok (.ireturn, 1) := by decide +kernel
theorem M_led_d60 : decode (zcode M_led) 60 = .ok (.ireturn, 1) := by decide +kernel
theorem M_led_d62 : decode (zcode M_led) 62 = .ok (.ireturn, 1) := by decide +kernel
theorem M_image_s0 : zseg (zown M_image) (zcode M_image) 0 [(.aload_n 0, 1, 0, 0, 0), (.aload_n 0, 1, 0, 0, 0), (.getfield 109, 3, 0, 11, 1), (.putfield 78, 3, 0, 11, 40), (.iconst 0, 1, 0, 0, 0), (.istore_n 1, 1, 0, 0, 0)] 10 = true := by decide +kernel
theorem M_image_s10 : zseg (zown M_image) (zcode M_image) 10 [(.iload_n 1, 1, 0, 0, 0), (.aload_n 0, 1, 0, 0, 0), (.getfield 109, 3, 0, 11, 1)] 15 = true := by decide +kernel
theorem M_image_s18 : zseg (zown M_image) (zcode M_image) 18 [(.aload_n 0, 1, 0, 0, 0), (.getfield 75, 3, 0, 11, 39), (.iload_n 1, 1, 0, 0, 0), (.aload_n 0, 1, 0, 0, 0), (.getfield 29, 3, 0, 11, 14), (.iload_n 1, 1, 0, 0, 0), (.iaload, 1, 0, 0, 0), (.iastore, 1, 0, 0, 0), (.aload_n 0, 1, 0, 0, 0), (.getfield 75, 3, 0, 11, 39), (.bipush 12, 2, 12, 0, 0), (.iload_n 1, 1, 0, 0, 0), (.iadd, 1, 0, 0, 0), (.aload_n 0, 1, 0, 0, 0), (.getfield 32, 3, 0, 11, 15), (.iload_n 1, 1, 0, 0, 0), (.iaload, 1, 0, 0, 0), (.iastore, 1, 0, 0, 0), (.iinc 1 1, 3, 1, 0, 0), (.goto (-38), 3, 0, 0, 0)] 10 = true := by decide +kernel
theorem M_image_s51 : zseg (zown M_image) (zcode M_image) 51 [(.aload_n 0, 1, 0, 0, 0), (.getfield 75, 3, 0, 11, 39), (.bipush 24, 2, 24, 0, 0), (.aload_n 0, 1, 0, 0, 0), (.getfield 161, 3, 0, 11, 3), (.iastore, 1, 0, 0, 0), (.aload_n 0, 1, 0, 0, 0), (.getfield 75, 3, 0, 11, 39), (.bipush 25, 2, 25, 0, 0), (.aload_n 0, 1, 0, 0, 0), (.getfield 343, 3, 0, 11, 35), (.iastore, 1, 0, 0, 0), (.aload_n 0, 1, 0, 0, 0), (.getfield 75, 3, 0, 11, 39), (.bipush 26, 2, 26, 0, 0), (.aload_n 0, 1, 0, 0, 0), (.getfield 346, 3, 0, 11, 36), (.iastore, 1, 0, 0, 0), (.aload_n 0, 1, 0, 0, 0), (.getfield 75, 3, 0, 11, 39), (.bipush 27, 2, 27, 0, 0), (.aload_n 0, 1, 0, 0, 0), (.getfield 349, 3, 0, 11, 37), (.iastore, 1, 0, 0, 0), (.aload_n 0, 1, 0, 0, 0), (.getfield 75, 3, 0, 11, 39), (.bipush 28, 2, 28, 0, 0), (.aload_n 0, 1, 0, 0, 0), (.getfield 352, 3, 0, 11, 38), (.iastore, 1, 0, 0, 0), (.aload_n 0, 1, 0, 0, 0), (.getfield 161, 3, 0, 11, 3)] 110 = true := by decide +kernel
theorem M_image_d15 : decode (zcode M_image) 15 = .ok (.if_icmp .ge 36, 3) := by decide +kernel
theorem M_image_d110 : decode (zcode M_image) 110 = .ok (.ireturn, 1) := by decide +kernel
theorem M_back_s0 : zseg (zown M_back) (zcode M_back) 0 [(.aload_n 0, 1, 0, 0, 0), (.getfield 78, 3, 0, 11, 40)] 4 = true := by decide +kernel
theorem M_back_s7 : zseg (zown M_back) (zcode M_back) 7 [(.bipush (-5), 2, (-5), 0, 0)] 9 = true := by decide +kernel
theorem M_back_s10 : zseg (zown M_back) (zcode M_back) 10 [(.iconst 0, 1, 0, 0, 0), (.istore_n 1, 1, 0, 0, 0)] 12 = true := by decide +kernel
theorem M_back_s12 : zseg (zown M_back) (zcode M_back) 12 [(.iload_n 1, 1, 0, 0, 0), (.aload_n 0, 1, 0, 0, 0), (.getfield 78, 3, 0, 11, 40)] 17 = true := by decide +kernel
theorem M_back_s20 : zseg (zown M_back) (zcode M_back) 20 [(.aload_n 0, 1, 0, 0, 0), (.getfield 29, 3, 0, 11, 14), (.iload_n 1, 1, 0, 0, 0), (.aload_n 0, 1, 0, 0, 0), (.getfield 75, 3, 0, 11, 39), (.iload_n 1, 1, 0, 0, 0), (.iaload, 1, 0, 0, 0), (.iastore, 1, 0, 0, 0), (.aload_n 0, 1, 0, 0, 0), (.getfield 32, 3, 0, 11, 15), (.iload_n 1, 1, 0, 0, 0), (.aload_n 0, 1, 0, 0, 0), (.getfield 75, 3, 0, 11, 39), (.bipush 12, 2, 12, 0, 0), (.iload_n 1, 1, 0, 0, 0), (.iadd, 1, 0, 0, 0), (.iaload, 1, 0, 0, 0), (.iastore, 1, 0, 0, 0), (.iinc 1 1, 3, 1, 0, 0), (.goto (-38), 3, 0, 0, 0)] 12 = true := by decide +kernel
theorem M_back_s53 : zseg (zown M_back) (zcode M_back) 53 [(.aload_n 0, 1, 0, 0, 0), (.aload_n 0, 1, 0, 0, 0), (.getfield 75, 3, 0, 11, 39), (.bipush 24, 2, 24, 0, 0), (.iaload, 1, 0, 0, 0), (.putfield 161, 3, 0, 11, 3), (.aload_n 0, 1, 0, 0, 0), (.aload_n 0, 1, 0, 0, 0), (.getfield 75, 3, 0, 11, 39), (.bipush 25, 2, 25, 0, 0), (.iaload, 1, 0, 0, 0), (.putfield 343, 3, 0, 11, 35), (.aload_n 0, 1, 0, 0, 0), (.aload_n 0, 1, 0, 0, 0), (.getfield 75, 3, 0, 11, 39), (.bipush 26, 2, 26, 0, 0), (.iaload, 1, 0, 0, 0), (.putfield 346, 3, 0, 11, 36), (.aload_n 0, 1, 0, 0, 0), (.aload_n 0, 1, 0, 0, 0), (.getfield 75, 3, 0, 11, 39), (.bipush 27, 2, 27, 0, 0), (.iaload, 1, 0, 0, 0), (.putfield 349, 3, 0, 11, 37), (.aload_n 0, 1, 0, 0, 0), (.aload_n 0, 1, 0, 0, 0), (.getfield 75, 3, 0, 11, 39), (.bipush 28, 2, 28, 0, 0), (.iaload, 1, 0, 0, 0), (.putfield 352, 3, 0, 11, 38), (.aload_n 0, 1, 0, 0, 0), (.getfield 161, 3, 0, 11, 3)] 112 = true := by decide +kernel
theorem M_back_d4 : decode (zcode M_back) 4 = .ok (.ifCond .ge 6, 3) := by decide +kernel
theorem M_back_d9 : decode (zcode M_back) 9 = .ok (.ireturn, 1) := by decide +kernel
theorem M_back_d17 : decode (zcode M_back) 17 = .ok (.if_icmp .ge 36, 3) := by decide +kernel
theorem M_back_d112 : decode (zcode M_back) 112 = .ok (.ireturn, 1) := by decide +kernel
theorem M_body_s0 : zseg (zown M_body) (zcode M_body) 0 [(.aload_n 0, 1, 0, 0, 0), (.iload_n 1, 1, 0, 0, 0), (.iconst 0, 1, 0, 0, 0), (.bipush 7, 2, 7, 0, 0)] 5 = true := by decide +kernel
theorem M_body_s11 : zseg (zown M_body) (zcode M_body) 11 [(.iconst (-1), 1, (-1), 0, 0)] 12 = true := by decide +kernel
theorem M_body_s13 : zseg (zown M_body) (zcode M_body) 13 [(.aload_n 0, 1, 0, 0, 0), (.getfield 355, 3, 0, 11, 7), (.bipush 50, 2, 50, 0, 0)] 19 = true := by decide +kernel
theorem M_body_s22 : zseg (zown M_body) (zcode M_body) 22 [(.bipush (-3), 2, (-3), 0, 0)] 24 = true := by decide +kernel
theorem M_body_s25 : zseg (zown M_body) (zcode M_body) 25 [(.aload_n 0, 1, 0, 0, 0), (.getfield 81, 3, 0, 11, 41), (.aload_n 0, 1, 0, 0, 0), (.getfield 355, 3, 0, 11, 7), (.iload_n 1, 1, 0, 0, 0), (.iastore, 1, 0, 0, 0), (.aload_n 0, 1, 0, 0, 0), (.dup, 1, 0, 0, 0), (.getfield 355, 3, 0, 11, 7), (.dup_x1, 1, 0, 0, 0), (.iconst 1, 1, 1, 0, 0), (.iadd, 1, 0, 0, 0), (.putfield 355, 3, 0, 11, 7)] 46 = true := by decide +kernel
theorem M_body_d5 : decode (zcode M_body) 5 = .ok (.invokevirtual 112, 3) := by decide +kernel
theorem M_body_d8 : decode (zcode M_body) 8 = .ok (.ifCond .ne 5, 3) := by decide +kernel
theorem M_body_d12 : decode (zcode M_body) 12 = .ok (.ireturn, 1) := by decide +kernel
theorem M_body_d19 : decode (zcode M_body) 19 = .ok (.if_icmp .ne 6, 3) := by decide +kernel
theorem M_body_d24 : decode (zcode M_body) 24 = .ok (.ireturn, 1) := by decide +kernel
theorem M_body_d46 : decode (zcode M_body) 46 = .ok (.ireturn, 1) := by decide +kernel
theorem M_runs_s0 : zseg (zown M_runs) (zcode M_runs) 0 [(.aload_n 0, 1, 0, 0, 0), (.getfield 358, 3, 0, 11, 6), (.bipush 24, 2, 24, 0, 0)] 6 = true := by decide +kernel
theorem M_runs_s9 : zseg (zown M_runs) (zcode M_runs) 9 [(.aload_n 0, 1, 0, 0, 0), (.getfield 84, 3, 0, 11, 42), (.aload_n 0, 1, 0, 0, 0), (.getfield 358, 3, 0, 11, 6), (.iload_n 1, 1, 0, 0, 0), (.iastore, 1, 0, 0, 0), (.aload_n 0, 1, 0, 0, 0), (.dup, 1, 0, 0, 0), (.getfield 358, 3, 0, 11, 6), (.iconst 1, 1, 1, 0, 0), (.iadd, 1, 0, 0, 0), (.putfield 358, 3, 0, 11, 6)] 29 = true := by decide +kernel
theorem M_runs_s19 : zseg (zown M_runs) (zcode M_runs) 19 [(.aload_n 0, 1, 0, 0, 0), (.dup, 1, 0, 0, 0), (.getfield 358, 3, 0, 11, 6), (.iconst 1, 1, 1, 0, 0), (.iadd, 1, 0, 0, 0), (.putfield 358, 3, 0, 11, 6)] 29 = true := by decide +kernel
theorem M_runs_d6 : decode (zcode M_runs) 6 = .ok (.if_icmp .ge 13, 3) := by decide +kernel
theorem M_runs_d29 : decode (zcode M_runs) 29 = .ok (.return_, 1) := by decide +kernel
theorem M_above_s0 : zseg (zown M_above) (zcode M_above) 0 [(.iload_n 1, 1, 0, 0, 0)] 1 = true := by decide +kernel
theorem M_above_s36 : zseg (zown M_above) (zcode M_above) 36 [(.iconst 2, 1, 2, 0, 0)] 37 = true := by decide +kernel
theorem M_above_s38 : zseg (zown M_above) (zcode M_above) 38 [(.iconst 1, 1, 1, 0, 0)] 39 = true := by decide +kernel
theorem M_above_s40 : zseg (zown M_above) (zcode M_above) 40 [(.iconst 3, 1, 3, 0, 0)] 41 = true := by decide +kernel
theorem M_above_s42 : zseg (zown M_above) (zcode M_above) 42 [(.iconst 4, 1, 4, 0, 0)] 43 = true := by decide +kernel
theorem M_above_s44 : zseg (zown M_above) (zcode M_above) 44 [(.iload_n 1, 1, 0, 0, 0)] 45 = true := by decide +kernel
theorem M_above_s48 : zseg (zown M_above) (zcode M_above) 48 [(.iconst (-1), 1, (-1), 0, 0), (.goto 4, 3, 0, 0, 0)] 53 = true := by decide +kernel
theorem M_above_s52 : zseg (zown M_above) (zcode M_above) 52 [(.iconst 0, 1, 0, 0, 0)] 53 = true := by decide +kernel
theorem M_above_d1 : decode (zcode M_above) 1 = .ok (.tableswitch 43 3 7 #[35, 37, 39, 43, 41], 35) := by decide +kernel
theorem M_above_d37 : decode (zcode M_above) 37 = .ok (.ireturn, 1) := by decide +kernel
theorem M_above_d39 : decode (zcode M_above) 39 = .ok (.ireturn, 1) := by decide +kernel
theorem M_above_d41 : decode (zcode M_above) 41 = .ok (.ireturn, 1) := by decide +kernel
theorem M_above_d43 : decode (zcode M_above) 43 = .ok (.ireturn, 1) := by decide +kernel
theorem M_above_d45 : decode (zcode M_above) 45 = .ok (.ifCond .ne 7, 3) := by decide +kernel
theorem M_above_d53 : decode (zcode M_above) 53 = .ok (.ireturn, 1) := by decide +kernel
theorem M_rings_s0 : zseg (zown M_rings) (zcode M_rings) 0 [(.iload_n 2, 1, 0, 0, 0), (.iconst 1, 1, 1, 0, 0)] 2 = true := by decide +kernel
theorem M_rings_s5 : zseg (zown M_rings) (zcode M_rings) 5 [(.aload_n 0, 1, 0, 0, 0), (.bipush 20, 2, 20, 0, 0)] 8 = true := by decide +kernel
theorem M_rings_s11 : zseg (zown M_rings) (zcode M_rings) 11 [(.aload_n 0, 1, 0, 0, 0), (.iload_n 1, 1, 0, 0, 0), (.aload_n 0, 1, 0, 0, 0), (.iload_n 2, 1, 0, 0, 0)] 15 = true := by decide +kernel
theorem M_rings_s18 : zseg (zown M_rings) (zcode M_rings) 18 [(.iload_n 3, 1, 0, 0, 0)] 19 = true := by decide +kernel
theorem M_rings_s22 : zseg (zown M_rings) (zcode M_rings) 22 [(.iconst 3, 1, 3, 0, 0), (.iadd, 1, 0, 0, 0)] 24 = true := by decide +kernel
theorem M_rings_s25 : zseg (zown M_rings) (zcode M_rings) 25 [(.iload_n 2, 1, 0, 0, 0), (.bipush 6, 2, 6, 0, 0)] 28 = true := by decide +kernel
theorem M_rings_s31 : zseg (zown M_rings) (zcode M_rings) 31 [(.aload_n 0, 1, 0, 0, 0), (.bipush 70, 2, 70, 0, 0)] 34 = true := by decide +kernel
theorem M_rings_s37 : zseg (zown M_rings) (zcode M_rings) 37 [(.aload_n 0, 1, 0, 0, 0), (.iload_n 1, 1, 0, 0, 0), (.aload_n 0, 1, 0, 0, 0), (.iload_n 2, 1, 0, 0, 0)] 41 = true := by decide +kernel
theorem M_rings_s44 : zseg (zown M_rings) (zcode M_rings) 44 [(.iload_n 3, 1, 0, 0, 0)] 45 = true := by decide +kernel
theorem M_rings_s48 : zseg (zown M_rings) (zcode M_rings) 48 [(.iconst 2, 1, 2, 0, 0), (.imul, 1, 0, 0, 0)] 50 = true := by decide +kernel
theorem M_rings_s51 : zseg (zown M_rings) (zcode M_rings) 51 [(.iload_n 2, 1, 0, 0, 0)] 52 = true := by decide +kernel
theorem M_rings_s55 : zseg (zown M_rings) (zcode M_rings) 55 [(.aload_n 0, 1, 0, 0, 0), (.iload_n 1, 1, 0, 0, 0), (.aload_n 0, 1, 0, 0, 0), (.iload_n 2, 1, 0, 0, 0)] 59 = true := by decide +kernel
theorem M_rings_s62 : zseg (zown M_rings) (zcode M_rings) 62 [(.iload_n 3, 1, 0, 0, 0)] 63 = true := by decide +kernel
theorem M_rings_s67 : zseg (zown M_rings) (zcode M_rings) 67 [(.aload_n 0, 1, 0, 0, 0), (.iconst 1, 1, 1, 0, 0)] 69 = true := by decide +kernel
theorem M_rings_s72 : zseg (zown M_rings) (zcode M_rings) 72 [(.iload_n 3, 1, 0, 0, 0), (.iload_n 1, 1, 0, 0, 0), (.iadd, 1, 0, 0, 0)] 75 = true := by decide +kernel
theorem M_rings_d2 : decode (zcode M_rings) 2 = .ok (.if_icmp .ne 23, 3) := by decide +kernel
theorem M_rings_d8 : decode (zcode M_rings) 8 = .ok (.invokevirtual 361, 3) := by decide +kernel
theorem M_rings_d15 : decode (zcode M_rings) 15 = .ok (.invokevirtual 364, 3) := by decide +kernel
theorem M_rings_d19 : decode (zcode M_rings) 19 = .ok (.invokevirtual 367, 3) := by decide +kernel
theorem M_rings_d24 : decode (zcode M_rings) 24 = .ok (.ireturn, 1) := by decide +kernel
theorem M_rings_d28 : decode (zcode M_rings) 28 = .ok (.if_icmp .ne 23, 3) := by decide +kernel
theorem M_rings_d34 : decode (zcode M_rings) 34 = .ok (.invokevirtual 361, 3) := by decide +kernel
theorem M_rings_d41 : decode (zcode M_rings) 41 = .ok (.invokevirtual 364, 3) := by decide +kernel
theorem M_rings_d45 : decode (zcode M_rings) 45 = .ok (.invokevirtual 367, 3) := by decide +kernel
theorem M_rings_d50 : decode (zcode M_rings) 50 = .ok (.ireturn, 1) := by decide +kernel
theorem M_rings_d52 : decode (zcode M_rings) 52 = .ok (.ifCond .le 15, 3) := by decide +kernel
theorem M_rings_d59 : decode (zcode M_rings) 59 = .ok (.invokevirtual 364, 3) := by decide +kernel
theorem M_rings_d63 : decode (zcode M_rings) 63 = .ok (.invokevirtual 367, 3) := by decide +kernel
theorem M_rings_d66 : decode (zcode M_rings) 66 = .ok (.ireturn, 1) := by decide +kernel
theorem M_rings_d69 : decode (zcode M_rings) 69 = .ok (.invokevirtual 361, 3) := by decide +kernel
theorem M_rings_d75 : decode (zcode M_rings) 75 = .ok (.ireturn, 1) := by decide +kernel
theorem M_hears_s0 : zseg (zown M_hears) (zcode M_hears) 0 [(.iload_n 2, 1, 0, 0, 0), (.iconst 2, 1, 2, 0, 0)] 2 = true := by decide +kernel
theorem M_hears_s5 : zseg (zown M_hears) (zcode M_hears) 5 [(.aload_n 0, 1, 0, 0, 0), (.bipush 30, 2, 30, 0, 0)] 8 = true := by decide +kernel
theorem M_hears_s11 : zseg (zown M_hears) (zcode M_hears) 11 [(.aload_n 0, 1, 0, 0, 0), (.iload_n 1, 1, 0, 0, 0), (.aload_n 0, 1, 0, 0, 0), (.iload_n 2, 1, 0, 0, 0)] 15 = true := by decide +kernel
theorem M_hears_s18 : zseg (zown M_hears) (zcode M_hears) 18 [(.iload_n 3, 1, 0, 0, 0)] 19 = true := by decide +kernel
theorem M_hears_s22 : zseg (zown M_hears) (zcode M_hears) 22 [(.ineg, 1, 0, 0, 0)] 23 = true := by decide +kernel
theorem M_hears_s24 : zseg (zown M_hears) (zcode M_hears) 24 [(.iload_n 2, 1, 0, 0, 0), (.iconst 3, 1, 3, 0, 0)] 26 = true := by decide +kernel
theorem M_hears_s29 : zseg (zown M_hears) (zcode M_hears) 29 [(.aload_n 0, 1, 0, 0, 0), (.bipush 41, 2, 41, 0, 0)] 32 = true := by decide +kernel
theorem M_hears_s35 : zseg (zown M_hears) (zcode M_hears) 35 [(.aload_n 0, 1, 0, 0, 0), (.iload_n 1, 1, 0, 0, 0), (.aload_n 0, 1, 0, 0, 0), (.iload_n 2, 1, 0, 0, 0)] 39 = true := by decide +kernel
theorem M_hears_s42 : zseg (zown M_hears) (zcode M_hears) 42 [(.iload_n 3, 1, 0, 0, 0), (.iconst 1, 1, 1, 0, 0), (.iadd, 1, 0, 0, 0)] 45 = true := by decide +kernel
theorem M_hears_s49 : zseg (zown M_hears) (zcode M_hears) 49 [(.iload_n 2, 1, 0, 0, 0), (.bipush 7, 2, 7, 0, 0)] 52 = true := by decide +kernel
theorem M_hears_s55 : zseg (zown M_hears) (zcode M_hears) 55 [(.aload_n 0, 1, 0, 0, 0), (.bipush 80, 2, 80, 0, 0)] 58 = true := by decide +kernel
theorem M_hears_s61 : zseg (zown M_hears) (zcode M_hears) 61 [(.aload_n 0, 1, 0, 0, 0), (.iload_n 1, 1, 0, 0, 0), (.aload_n 0, 1, 0, 0, 0), (.iload_n 2, 1, 0, 0, 0)] 65 = true := by decide +kernel
theorem M_hears_s68 : zseg (zown M_hears) (zcode M_hears) 68 [(.iload_n 3, 1, 0, 0, 0)] 69 = true := by decide +kernel
theorem M_hears_s72 : zseg (zown M_hears) (zcode M_hears) 72 [(.istore 4, 2, 0, 0, 0), (.iload 4, 2, 0, 0, 0), (.aload_n 0, 1, 0, 0, 0), (.iload_n 1, 1, 0, 0, 0), (.aload_n 0, 1, 0, 0, 0), (.getfield 81, 3, 0, 11, 41), (.iload_n 1, 1, 0, 0, 0), (.iaload, 1, 0, 0, 0), (.iconst 2, 1, 2, 0, 0)] 85 = true := by decide +kernel
theorem M_hears_s88 : zseg (zown M_hears) (zcode M_hears) 88 [(.iadd, 1, 0, 0, 0)] 89 = true := by decide +kernel
theorem M_hears_s90 : zseg (zown M_hears) (zcode M_hears) 90 [(.iload_n 2, 1, 0, 0, 0)] 91 = true := by decide +kernel
theorem M_hears_s94 : zseg (zown M_hears) (zcode M_hears) 94 [(.aload_n 0, 1, 0, 0, 0), (.iload_n 1, 1, 0, 0, 0), (.aload_n 0, 1, 0, 0, 0), (.iload_n 2, 1, 0, 0, 0)] 98 = true := by decide +kernel
theorem M_hears_s101 : zseg (zown M_hears) (zcode M_hears) 101 [(.iload_n 3, 1, 0, 0, 0)] 102 = true := by decide +kernel
theorem M_hears_s106 : zseg (zown M_hears) (zcode M_hears) 106 [(.aload_n 0, 1, 0, 0, 0), (.bipush 10, 2, 10, 0, 0)] 109 = true := by decide +kernel
theorem M_hears_s112 : zseg (zown M_hears) (zcode M_hears) 112 [(.aload_n 0, 1, 0, 0, 0), (.iload_n 1, 1, 0, 0, 0), (.aload_n 0, 1, 0, 0, 0), (.getfield 81, 3, 0, 11, 41), (.iload_n 1, 1, 0, 0, 0), (.iaload, 1, 0, 0, 0), (.iload_n 3, 1, 0, 0, 0)] 121 = true := by decide +kernel
theorem M_hears_s124 : zseg (zown M_hears) (zcode M_hears) 124 [(.iconst 2, 1, 2, 0, 0), (.imul, 1, 0, 0, 0)] 126 = true := by decide +kernel
theorem M_hears_d2 : decode (zcode M_hears) 2 = .ok (.if_icmp .ne 22, 3) := by decide +kernel
theorem M_hears_d8 : decode (zcode M_hears) 8 = .ok (.invokevirtual 361, 3) := by decide +kernel
theorem M_hears_d15 : decode (zcode M_hears) 15 = .ok (.invokevirtual 364, 3) := by decide +kernel
theorem M_hears_d19 : decode (zcode M_hears) 19 = .ok (.invokevirtual 370, 3) := by decide +kernel
theorem M_hears_d23 : decode (zcode M_hears) 23 = .ok (.ireturn, 1) := by decide +kernel
theorem M_hears_d26 : decode (zcode M_hears) 26 = .ok (.if_icmp .ne 23, 3) := by decide +kernel
theorem M_hears_d32 : decode (zcode M_hears) 32 = .ok (.invokevirtual 361, 3) := by decide +kernel
theorem M_hears_d39 : decode (zcode M_hears) 39 = .ok (.invokevirtual 364, 3) := by decide +kernel
theorem M_hears_d45 : decode (zcode M_hears) 45 = .ok (.invokevirtual 370, 3) := by decide +kernel
theorem M_hears_d48 : decode (zcode M_hears) 48 = .ok (.ireturn, 1) := by decide +kernel
theorem M_hears_d52 : decode (zcode M_hears) 52 = .ok (.if_icmp .ne 38, 3) := by decide +kernel
theorem M_hears_d58 : decode (zcode M_hears) 58 = .ok (.invokevirtual 361, 3) := by decide +kernel
theorem M_hears_d65 : decode (zcode M_hears) 65 = .ok (.invokevirtual 364, 3) := by decide +kernel
theorem M_hears_d69 : decode (zcode M_hears) 69 = .ok (.invokevirtual 370, 3) := by decide +kernel
theorem M_hears_d85 : decode (zcode M_hears) 85 = .ok (.invokevirtual 373, 3) := by decide +kernel
theorem M_hears_d89 : decode (zcode M_hears) 89 = .ok (.ireturn, 1) := by decide +kernel
theorem M_hears_d91 : decode (zcode M_hears) 91 = .ok (.ifCond .le 15, 3) := by decide +kernel
theorem M_hears_d98 : decode (zcode M_hears) 98 = .ok (.invokevirtual 364, 3) := by decide +kernel
theorem M_hears_d102 : decode (zcode M_hears) 102 = .ok (.invokevirtual 370, 3) := by decide +kernel
theorem M_hears_d105 : decode (zcode M_hears) 105 = .ok (.ireturn, 1) := by decide +kernel
theorem M_hears_d109 : decode (zcode M_hears) 109 = .ok (.invokevirtual 361, 3) := by decide +kernel
theorem M_hears_d121 : decode (zcode M_hears) 121 = .ok (.invokevirtual 367, 3) := by decide +kernel
theorem M_hears_d126 : decode (zcode M_hears) 126 = .ok (.ireturn, 1) := by decide +kernel
theorem M_doing_s0 : zseg (zown M_doing) (zcode M_doing) 0 [(.iload_n 2, 1, 0, 0, 0), (.iconst 3, 1, 3, 0, 0)] 2 = true := by decide +kernel
theorem M_doing_s5 : zseg (zown M_doing) (zcode M_doing) 5 [(.aload_n 0, 1, 0, 0, 0), (.bipush 40, 2, 40, 0, 0)] 8 = true := by decide +kernel
theorem M_doing_s11 : zseg (zown M_doing) (zcode M_doing) 11 [(.aload_n 0, 1, 0, 0, 0), (.iload_n 1, 1, 0, 0, 0), (.aload_n 0, 1, 0, 0, 0), (.iload_n 2, 1, 0, 0, 0)] 15 = true := by decide +kernel
theorem M_doing_s18 : zseg (zown M_doing) (zcode M_doing) 18 [(.iload_n 3, 1, 0, 0, 0)] 19 = true := by decide +kernel
theorem M_doing_s22 : zseg (zown M_doing) (zcode M_doing) 22 [(.iconst 3, 1, 3, 0, 0), (.imul, 1, 0, 0, 0)] 24 = true := by decide +kernel
theorem M_doing_s25 : zseg (zown M_doing) (zcode M_doing) 25 [(.iload_n 2, 1, 0, 0, 0), (.iconst 4, 1, 4, 0, 0)] 27 = true := by decide +kernel
theorem M_doing_s30 : zseg (zown M_doing) (zcode M_doing) 30 [(.aload_n 0, 1, 0, 0, 0), (.bipush 50, 2, 50, 0, 0)] 33 = true := by decide +kernel
theorem M_doing_s36 : zseg (zown M_doing) (zcode M_doing) 36 [(.aload_n 0, 1, 0, 0, 0), (.iload_n 1, 1, 0, 0, 0), (.aload_n 0, 1, 0, 0, 0), (.iload_n 2, 1, 0, 0, 0)] 40 = true := by decide +kernel
theorem M_doing_s43 : zseg (zown M_doing) (zcode M_doing) 43 [(.iload_n 3, 1, 0, 0, 0)] 44 = true := by decide +kernel
theorem M_doing_s47 : zseg (zown M_doing) (zcode M_doing) 47 [(.istore 4, 2, 0, 0, 0), (.iload 4, 2, 0, 0, 0), (.aload_n 0, 1, 0, 0, 0), (.iload_n 1, 1, 0, 0, 0), (.aload_n 0, 1, 0, 0, 0), (.getfield 81, 3, 0, 11, 41), (.iload_n 1, 1, 0, 0, 0), (.iaload, 1, 0, 0, 0), (.iconst 2, 1, 2, 0, 0)] 60 = true := by decide +kernel
theorem M_doing_s63 : zseg (zown M_doing) (zcode M_doing) 63 [(.isub, 1, 0, 0, 0)] 64 = true := by decide +kernel
theorem M_doing_s65 : zseg (zown M_doing) (zcode M_doing) 65 [(.iload_n 2, 1, 0, 0, 0)] 66 = true := by decide +kernel
theorem M_doing_s69 : zseg (zown M_doing) (zcode M_doing) 69 [(.aload_n 0, 1, 0, 0, 0), (.iload_n 1, 1, 0, 0, 0), (.aload_n 0, 1, 0, 0, 0), (.iload_n 2, 1, 0, 0, 0)] 73 = true := by decide +kernel
theorem M_doing_s76 : zseg (zown M_doing) (zcode M_doing) 76 [(.iload_n 3, 1, 0, 0, 0)] 77 = true := by decide +kernel
theorem M_doing_s81 : zseg (zown M_doing) (zcode M_doing) 81 [(.aload_n 0, 1, 0, 0, 0), (.bipush 11, 2, 11, 0, 0)] 84 = true := by decide +kernel
theorem M_doing_s87 : zseg (zown M_doing) (zcode M_doing) 87 [(.iload_n 3, 1, 0, 0, 0), (.iload_n 1, 1, 0, 0, 0), (.ixor, 1, 0, 0, 0)] 90 = true := by decide +kernel
theorem M_doing_d2 : decode (zcode M_doing) 2 = .ok (.if_icmp .ne 23, 3) := by decide +kernel
theorem M_doing_d8 : decode (zcode M_doing) 8 = .ok (.invokevirtual 361, 3) := by decide +kernel
theorem M_doing_d15 : decode (zcode M_doing) 15 = .ok (.invokevirtual 364, 3) := by decide +kernel
theorem M_doing_d19 : decode (zcode M_doing) 19 = .ok (.invokevirtual 373, 3) := by decide +kernel
theorem M_doing_d24 : decode (zcode M_doing) 24 = .ok (.ireturn, 1) := by decide +kernel
theorem M_doing_d27 : decode (zcode M_doing) 27 = .ok (.if_icmp .ne 38, 3) := by decide +kernel
theorem M_doing_d33 : decode (zcode M_doing) 33 = .ok (.invokevirtual 361, 3) := by decide +kernel
theorem M_doing_d40 : decode (zcode M_doing) 40 = .ok (.invokevirtual 364, 3) := by decide +kernel
theorem M_doing_d44 : decode (zcode M_doing) 44 = .ok (.invokevirtual 373, 3) := by decide +kernel
theorem M_doing_d60 : decode (zcode M_doing) 60 = .ok (.invokevirtual 367, 3) := by decide +kernel
theorem M_doing_d64 : decode (zcode M_doing) 64 = .ok (.ireturn, 1) := by decide +kernel
theorem M_doing_d66 : decode (zcode M_doing) 66 = .ok (.ifCond .le 15, 3) := by decide +kernel
theorem M_doing_d73 : decode (zcode M_doing) 73 = .ok (.invokevirtual 364, 3) := by decide +kernel
theorem M_doing_d77 : decode (zcode M_doing) 77 = .ok (.invokevirtual 373, 3) := by decide +kernel
theorem M_doing_d80 : decode (zcode M_doing) 80 = .ok (.ireturn, 1) := by decide +kernel
theorem M_doing_d84 : decode (zcode M_doing) 84 = .ok (.invokevirtual 361, 3) := by decide +kernel
theorem M_doing_d90 : decode (zcode M_doing) 90 = .ok (.ireturn, 1) := by decide +kernel
theorem M_tells_s0 : zseg (zown M_tells) (zcode M_tells) 0 [(.iload_n 2, 1, 0, 0, 0), (.iconst 5, 1, 5, 0, 0)] 2 = true := by decide +kernel
theorem M_tells_s5 : zseg (zown M_tells) (zcode M_tells) 5 [(.aload_n 0, 1, 0, 0, 0), (.bipush 60, 2, 60, 0, 0)] 8 = true := by decide +kernel
theorem M_tells_s11 : zseg (zown M_tells) (zcode M_tells) 11 [(.aload_n 0, 1, 0, 0, 0), (.iload_n 1, 1, 0, 0, 0), (.aload_n 0, 1, 0, 0, 0), (.iload_n 2, 1, 0, 0, 0)] 15 = true := by decide +kernel
theorem M_tells_s18 : zseg (zown M_tells) (zcode M_tells) 18 [(.iload_n 3, 1, 0, 0, 0)] 19 = true := by decide +kernel
theorem M_tells_s22 : zseg (zown M_tells) (zcode M_tells) 22 [(.iconst 5, 1, 5, 0, 0), (.ixor, 1, 0, 0, 0)] 24 = true := by decide +kernel
theorem M_tells_s25 : zseg (zown M_tells) (zcode M_tells) 25 [(.iload_n 2, 1, 0, 0, 0), (.bipush 7, 2, 7, 0, 0)] 28 = true := by decide +kernel
theorem M_tells_s31 : zseg (zown M_tells) (zcode M_tells) 31 [(.aload_n 0, 1, 0, 0, 0), (.bipush 81, 2, 81, 0, 0)] 34 = true := by decide +kernel
theorem M_tells_s37 : zseg (zown M_tells) (zcode M_tells) 37 [(.aload_n 0, 1, 0, 0, 0), (.iload_n 1, 1, 0, 0, 0), (.aload_n 0, 1, 0, 0, 0), (.iload_n 2, 1, 0, 0, 0)] 41 = true := by decide +kernel
theorem M_tells_s44 : zseg (zown M_tells) (zcode M_tells) 44 [(.iload_n 3, 1, 0, 0, 0)] 45 = true := by decide +kernel
theorem M_tells_s48 : zseg (zown M_tells) (zcode M_tells) 48 [(.iconst 1, 1, 1, 0, 0), (.isub, 1, 0, 0, 0)] 50 = true := by decide +kernel
theorem M_tells_s51 : zseg (zown M_tells) (zcode M_tells) 51 [(.iload_n 2, 1, 0, 0, 0)] 52 = true := by decide +kernel
theorem M_tells_s55 : zseg (zown M_tells) (zcode M_tells) 55 [(.aload_n 0, 1, 0, 0, 0), (.iload_n 1, 1, 0, 0, 0), (.aload_n 0, 1, 0, 0, 0), (.iload_n 2, 1, 0, 0, 0)] 59 = true := by decide +kernel
theorem M_tells_s62 : zseg (zown M_tells) (zcode M_tells) 62 [(.iload_n 3, 1, 0, 0, 0)] 63 = true := by decide +kernel
theorem M_tells_s67 : zseg (zown M_tells) (zcode M_tells) 67 [(.aload_n 0, 1, 0, 0, 0), (.iconst 2, 1, 2, 0, 0)] 69 = true := by decide +kernel
theorem M_tells_s72 : zseg (zown M_tells) (zcode M_tells) 72 [(.aload_n 0, 1, 0, 0, 0), (.iload_n 1, 1, 0, 0, 0), (.aload_n 0, 1, 0, 0, 0), (.getfield 81, 3, 0, 11, 41), (.iload_n 1, 1, 0, 0, 0), (.iaload, 1, 0, 0, 0), (.iload_n 3, 1, 0, 0, 0)] 81 = true := by decide +kernel
theorem M_tells_s84 : zseg (zown M_tells) (zcode M_tells) 84 [(.istore 4, 2, 0, 0, 0), (.iload 4, 2, 0, 0, 0), (.aload_n 0, 1, 0, 0, 0), (.iload_n 1, 1, 0, 0, 0), (.aload_n 0, 1, 0, 0, 0), (.getfield 81, 3, 0, 11, 41), (.iload_n 1, 1, 0, 0, 0), (.iaload, 1, 0, 0, 0), (.iconst 1, 1, 1, 0, 0)] 97 = true := by decide +kernel
theorem M_tells_s100 : zseg (zown M_tells) (zcode M_tells) 100 [(.isub, 1, 0, 0, 0)] 101 = true := by decide +kernel
theorem M_tells_d2 : decode (zcode M_tells) 2 = .ok (.if_icmp .ne 23, 3) := by decide +kernel
theorem M_tells_d8 : decode (zcode M_tells) 8 = .ok (.invokevirtual 361, 3) := by decide +kernel
theorem M_tells_d15 : decode (zcode M_tells) 15 = .ok (.invokevirtual 364, 3) := by decide +kernel
theorem M_tells_d19 : decode (zcode M_tells) 19 = .ok (.invokevirtual 376, 3) := by decide +kernel
theorem M_tells_d24 : decode (zcode M_tells) 24 = .ok (.ireturn, 1) := by decide +kernel
theorem M_tells_d28 : decode (zcode M_tells) 28 = .ok (.if_icmp .ne 23, 3) := by decide +kernel
theorem M_tells_d34 : decode (zcode M_tells) 34 = .ok (.invokevirtual 361, 3) := by decide +kernel
theorem M_tells_d41 : decode (zcode M_tells) 41 = .ok (.invokevirtual 364, 3) := by decide +kernel
theorem M_tells_d45 : decode (zcode M_tells) 45 = .ok (.invokevirtual 376, 3) := by decide +kernel
theorem M_tells_d50 : decode (zcode M_tells) 50 = .ok (.ireturn, 1) := by decide +kernel
theorem M_tells_d52 : decode (zcode M_tells) 52 = .ok (.ifCond .le 15, 3) := by decide +kernel
theorem M_tells_d59 : decode (zcode M_tells) 59 = .ok (.invokevirtual 364, 3) := by decide +kernel
theorem M_tells_d63 : decode (zcode M_tells) 63 = .ok (.invokevirtual 376, 3) := by decide +kernel
theorem M_tells_d66 : decode (zcode M_tells) 66 = .ok (.ireturn, 1) := by decide +kernel
theorem M_tells_d69 : decode (zcode M_tells) 69 = .ok (.invokevirtual 361, 3) := by decide +kernel
theorem M_tells_d81 : decode (zcode M_tells) 81 = .ok (.invokevirtual 370, 3) := by decide +kernel
theorem M_tells_d97 : decode (zcode M_tells) 97 = .ok (.invokevirtual 373, 3) := by decide +kernel
theorem M_tells_d101 : decode (zcode M_tells) 101 = .ok (.ireturn, 1) := by decide +kernel
theorem M_act_s0 : zseg (zown M_act) (zcode M_act) 0 [(.aload_n 0, 1, 0, 0, 0), (.iconst 0, 1, 0, 0, 0), (.putfield 358, 3, 0, 11, 6), (.aload_n 0, 1, 0, 0, 0), (.iload_n 1, 1, 0, 0, 0), (.iconst 0, 1, 0, 0, 0), (.aload_n 0, 1, 0, 0, 0), (.getfield 355, 3, 0, 11, 7), (.iconst 1, 1, 1, 0, 0), (.isub, 1, 0, 0, 0)] 14 = true := by decide +kernel
theorem M_act_s20 : zseg (zown M_act) (zcode M_act) 20 [(.aload_n 0, 1, 0, 0, 0), (.iload_n 2, 1, 0, 0, 0), (.iconst 0, 1, 0, 0, 0), (.iconst 3, 1, 3, 0, 0)] 24 = true := by decide +kernel
theorem M_act_s30 : zseg (zown M_act) (zcode M_act) 30 [(.iconst 0, 1, 0, 0, 0)] 31 = true := by decide +kernel
theorem M_act_s32 : zseg (zown M_act) (zcode M_act) 32 [(.aload_n 0, 1, 0, 0, 0), (.getfield 81, 3, 0, 11, 41), (.iload_n 1, 1, 0, 0, 0), (.iaload, 1, 0, 0, 0), (.istore 4, 2, 0, 0, 0), (.iload_n 2, 1, 0, 0, 0)] 41 = true := by decide +kernel
theorem M_act_s44 : zseg (zown M_act) (zcode M_act) 44 [(.aload_n 0, 1, 0, 0, 0), (.iload_n 1, 1, 0, 0, 0), (.iload 4, 2, 0, 0, 0), (.iload_n 3, 1, 0, 0, 0)] 49 = true := by decide +kernel
theorem M_act_s52 : zseg (zown M_act) (zcode M_act) 52 [(.goto 43, 3, 0, 0, 0)] 95 = true := by decide +kernel
theorem M_act_s55 : zseg (zown M_act) (zcode M_act) 55 [(.iload_n 2, 1, 0, 0, 0), (.iconst 1, 1, 1, 0, 0)] 57 = true := by decide +kernel
theorem M_act_s60 : zseg (zown M_act) (zcode M_act) 60 [(.aload_n 0, 1, 0, 0, 0), (.iload_n 1, 1, 0, 0, 0), (.iload 4, 2, 0, 0, 0), (.iload_n 3, 1, 0, 0, 0)] 65 = true := by decide +kernel
theorem M_act_s68 : zseg (zown M_act) (zcode M_act) 68 [(.goto 27, 3, 0, 0, 0)] 95 = true := by decide +kernel
theorem M_act_s71 : zseg (zown M_act) (zcode M_act) 71 [(.iload_n 2, 1, 0, 0, 0), (.iconst 2, 1, 2, 0, 0)] 73 = true := by decide +kernel
theorem M_act_s76 : zseg (zown M_act) (zcode M_act) 76 [(.aload_n 0, 1, 0, 0, 0), (.iload_n 1, 1, 0, 0, 0), (.iload 4, 2, 0, 0, 0), (.iload_n 3, 1, 0, 0, 0)] 81 = true := by decide +kernel
theorem M_act_s84 : zseg (zown M_act) (zcode M_act) 84 [(.goto 11, 3, 0, 0, 0)] 95 = true := by decide +kernel
theorem M_act_s87 : zseg (zown M_act) (zcode M_act) 87 [(.aload_n 0, 1, 0, 0, 0), (.iload_n 1, 1, 0, 0, 0), (.iload 4, 2, 0, 0, 0), (.iload_n 3, 1, 0, 0, 0)] 92 = true := by decide +kernel
theorem M_act_d14 : decode (zcode M_act) 14 = .ok (.invokevirtual 112, 3) := by decide +kernel
theorem M_act_d17 : decode (zcode M_act) 17 = .ok (.ifCond .eq 13, 3) := by decide +kernel
theorem M_act_d24 : decode (zcode M_act) 24 = .ok (.invokevirtual 112, 3) := by decide +kernel
theorem M_act_d27 : decode (zcode M_act) 27 = .ok (.ifCond .ne 5, 3) := by decide +kernel
theorem M_act_d31 : decode (zcode M_act) 31 = .ok (.ireturn, 1) := by decide +kernel
theorem M_act_d41 : decode (zcode M_act) 41 = .ok (.ifCond .ne 14, 3) := by decide +kernel
theorem M_act_d49 : decode (zcode M_act) 49 = .ok (.invokevirtual 367, 3) := by decide +kernel
theorem M_act_d95 : decode (zcode M_act) 95 = .ok (.ireturn, 1) := by decide +kernel
theorem M_act_d57 : decode (zcode M_act) 57 = .ok (.if_icmp .ne 14, 3) := by decide +kernel
theorem M_act_d65 : decode (zcode M_act) 65 = .ok (.invokevirtual 370, 3) := by decide +kernel
theorem M_act_d73 : decode (zcode M_act) 73 = .ok (.if_icmp .ne 14, 3) := by decide +kernel
theorem M_act_d81 : decode (zcode M_act) 81 = .ok (.invokevirtual 373, 3) := by decide +kernel
theorem M_act_d92 : decode (zcode M_act) 92 = .ok (.invokevirtual 376, 3) := by decide +kernel
theorem M_trace_s0 : zseg (zown M_trace) (zcode M_trace) 0 [(.iload_n 1, 1, 0, 0, 0)] 1 = true := by decide +kernel
theorem M_trace_s4 : zseg (zown M_trace) (zcode M_trace) 4 [(.iload_n 1, 1, 0, 0, 0), (.bipush 24, 2, 24, 0, 0)] 7 = true := by decide +kernel
theorem M_trace_s10 : zseg (zown M_trace) (zcode M_trace) 10 [(.iload_n 1, 1, 0, 0, 0), (.aload_n 0, 1, 0, 0, 0), (.getfield 358, 3, 0, 11, 6)] 15 = true := by decide +kernel
theorem M_trace_s18 : zseg (zown M_trace) (zcode M_trace) 18 [(.aload_n 0, 1, 0, 0, 0), (.getfield 84, 3, 0, 11, 42), (.iload_n 1, 1, 0, 0, 0), (.iaload, 1, 0, 0, 0), (.goto 4, 3, 0, 0, 0)] 28 = true := by decide +kernel
theorem M_trace_s27 : zseg (zown M_trace) (zcode M_trace) 27 [(.iconst (-1), 1, (-1), 0, 0)] 28 = true := by decide +kernel
theorem M_trace_d1 : decode (zcode M_trace) 1 = .ok (.ifCond .lt 26, 3) := by decide +kernel
theorem M_trace_d7 : decode (zcode M_trace) 7 = .ok (.if_icmp .ge 20, 3) := by decide +kernel
theorem M_trace_d15 : decode (zcode M_trace) 15 = .ok (.if_icmp .ge 12, 3) := by decide +kernel
theorem M_trace_d28 : decode (zcode M_trace) 28 = .ok (.ireturn, 1) := by decide +kernel
theorem M_isShelf_s0 : zseg (zown M_isShelf) (zcode M_isShelf) 0 [(.iload_n 1, 1, 0, 0, 0)] 1 = true := by decide +kernel
theorem M_isShelf_s4 : zseg (zown M_isShelf) (zcode M_isShelf) 4 [(.iload_n 1, 1, 0, 0, 0), (.bipush 6, 2, 6, 0, 0)] 7 = true := by decide +kernel
theorem M_isShelf_s10 : zseg (zown M_isShelf) (zcode M_isShelf) 10 [(.iconst 1, 1, 1, 0, 0), (.goto 4, 3, 0, 0, 0)] 15 = true := by decide +kernel
theorem M_isShelf_s14 : zseg (zown M_isShelf) (zcode M_isShelf) 14 [(.iconst 0, 1, 0, 0, 0)] 15 = true := by decide +kernel
theorem M_isShelf_d1 : decode (zcode M_isShelf) 1 = .ok (.ifCond .lt 13, 3) := by decide +kernel
theorem M_isShelf_d7 : decode (zcode M_isShelf) 7 = .ok (.if_icmp .ge 7, 3) := by decide +kernel
theorem M_isShelf_d15 : decode (zcode M_isShelf) 15 = .ok (.ireturn, 1) := by decide +kernel
theorem M_intAt_s0 : zseg (zown M_intAt) (zcode M_intAt) 0 [(.aload_n 0, 1, 0, 0, 0), (.getfield 99, 3, 0, 11, 47), (.bipush 60, 2, 60, 0, 0), (.iload_n 1, 1, 0, 0, 0), (.imul, 1, 0, 0, 0), (.iload_n 2, 1, 0, 0, 0), (.iadd, 1, 0, 0, 0), (.laload, 1, 0, 0, 0), (.l2i, 1, 0, 0, 0)] 12 = true := by decide +kernel
theorem M_intAt_d12 : decode (zcode M_intAt) 12 = .ok (.ireturn, 1) := by decide +kernel
theorem M_keep_s0 : zseg (zown M_keep) (zcode M_keep) 0 [(.aload_n 0, 1, 0, 0, 0), (.iload_n 1, 1, 0, 0, 0)] 2 = true := by decide +kernel
theorem M_keep_s8 : zseg (zown M_keep) (zcode M_keep) 8 [(.aload_n 0, 1, 0, 0, 0), (.iload_n 2, 1, 0, 0, 0), (.iconst (-1), 1, (-1), 0, 0), (.aload_n 0, 1, 0, 0, 0), (.getfield 355, 3, 0, 11, 7), (.iconst 1, 1, 1, 0, 0), (.isub, 1, 0, 0, 0)] 17 = true := by decide +kernel
theorem M_keep_s23 : zseg (zown M_keep) (zcode M_keep) 23 [(.iconst (-1), 1, (-1), 0, 0)] 24 = true := by decide +kernel
theorem M_keep_s25 : zseg (zown M_keep) (zcode M_keep) 25 [(.aload_n 0, 1, 0, 0, 0), (.getfield 87, 3, 0, 11, 43), (.iload_n 1, 1, 0, 0, 0), (.iload_n 2, 1, 0, 0, 0)] 31 = true := by decide +kernel
theorem M_keep_s34 : zseg (zown M_keep) (zcode M_keep) 34 [(.iconst 0, 1, 0, 0, 0), (.goto 4, 3, 0, 0, 0), (.iastore, 1, 0, 0, 0), (.aload_n 0, 1, 0, 0, 0), (.getfield 96, 3, 0, 11, 46), (.iload_n 1, 1, 0, 0, 0), (.iload_n 2, 1, 0, 0, 0), (.iastore, 1, 0, 0, 0), (.iconst 1, 1, 1, 0, 0)] 48 = true := by decide +kernel
theorem M_keep_s38 : zseg (zown M_keep) (zcode M_keep) 38 [(.iconst 1, 1, 1, 0, 0), (.iastore, 1, 0, 0, 0), (.aload_n 0, 1, 0, 0, 0), (.getfield 96, 3, 0, 11, 46), (.iload_n 1, 1, 0, 0, 0), (.iload_n 2, 1, 0, 0, 0), (.iastore, 1, 0, 0, 0), (.iconst 1, 1, 1, 0, 0)] 48 = true := by decide +kernel
theorem M_keep_d2 : decode (zcode M_keep) 2 = .ok (.invokevirtual 124, 3) := by decide +kernel
theorem M_keep_d5 : decode (zcode M_keep) 5 = .ok (.ifCond .eq 18, 3) := by decide +kernel
theorem M_keep_d17 : decode (zcode M_keep) 17 = .ok (.invokevirtual 112, 3) := by decide +kernel
theorem M_keep_d20 : decode (zcode M_keep) 20 = .ok (.ifCond .ne 5, 3) := by decide +kernel
theorem M_keep_d24 : decode (zcode M_keep) 24 = .ok (.ireturn, 1) := by decide +kernel
theorem M_keep_d31 : decode (zcode M_keep) 31 = .ok (.ifCond .ge 7, 3) := by decide +kernel
theorem M_keep_d48 : decode (zcode M_keep) 48 = .ok (.ireturn, 1) := by decide +kernel
theorem M_row_s0 : zseg (zown M_row) (zcode M_row) 0 [(.aload_n 0, 1, 0, 0, 0), (.iload_n 1, 1, 0, 0, 0)] 2 = true := by decide +kernel
theorem M_row_s8 : zseg (zown M_row) (zcode M_row) 8 [(.aload_n 0, 1, 0, 0, 0), (.iload_n 2, 1, 0, 0, 0), (.iconst 0, 1, 0, 0, 0), (.iconst 4, 1, 4, 0, 0)] 12 = true := by decide +kernel
theorem M_row_s18 : zseg (zown M_row) (zcode M_row) 18 [(.iload_n 3, 1, 0, 0, 0), (.bipush 60, 2, 60, 0, 0)] 21 = true := by decide +kernel
theorem M_row_s24 : zseg (zown M_row) (zcode M_row) 24 [(.iconst (-1), 1, (-1), 0, 0)] 25 = true := by decide +kernel
theorem M_row_s26 : zseg (zown M_row) (zcode M_row) 26 [(.iload_n 3, 1, 0, 0, 0)] 27 = true := by decide +kernel
theorem M_row_s30 : zseg (zown M_row) (zcode M_row) 30 [(.bipush (-14), 2, (-14), 0, 0)] 32 = true := by decide +kernel
theorem M_row_s33 : zseg (zown M_row) (zcode M_row) 33 [(.aload_n 0, 1, 0, 0, 0), (.getfield 87, 3, 0, 11, 43), (.iload_n 1, 1, 0, 0, 0), (.iconst 2, 1, 2, 0, 0), (.iastore, 1, 0, 0, 0), (.aload_n 0, 1, 0, 0, 0), (.getfield 90, 3, 0, 11, 44), (.iload_n 1, 1, 0, 0, 0), (.iload_n 2, 1, 0, 0, 0), (.iastore, 1, 0, 0, 0), (.aload_n 0, 1, 0, 0, 0), (.getfield 93, 3, 0, 11, 45), (.iload_n 1, 1, 0, 0, 0), (.iload_n 3, 1, 0, 0, 0), (.iastore, 1, 0, 0, 0), (.iconst 0, 1, 0, 0, 0), (.istore 4, 2, 0, 0, 0)] 57 = true := by decide +kernel
theorem M_row_s57 : zseg (zown M_row) (zcode M_row) 57 [(.iload 4, 2, 0, 0, 0), (.bipush 60, 2, 60, 0, 0)] 61 = true := by decide +kernel
theorem M_row_s64 : zseg (zown M_row) (zcode M_row) 64 [(.aload_n 0, 1, 0, 0, 0), (.getfield 99, 3, 0, 11, 47), (.bipush 60, 2, 60, 0, 0), (.iload_n 1, 1, 0, 0, 0), (.imul, 1, 0, 0, 0), (.iload 4, 2, 0, 0, 0), (.iadd, 1, 0, 0, 0), (.lconst 0, 1, 0, 0, 0), (.lastore, 1, 0, 0, 0), (.iinc 4 1, 3, 1, 0, 0), (.goto (-23), 3, 0, 0, 0)] 57 = true := by decide +kernel
theorem M_row_s83 : zseg (zown M_row) (zcode M_row) 83 [(.iconst 1, 1, 1, 0, 0)] 84 = true := by decide +kernel
theorem M_row_d2 : decode (zcode M_row) 2 = .ok (.invokevirtual 124, 3) := by decide +kernel
theorem M_row_d5 : decode (zcode M_row) 5 = .ok (.ifCond .eq 19, 3) := by decide +kernel
theorem M_row_d12 : decode (zcode M_row) 12 = .ok (.invokevirtual 112, 3) := by decide +kernel
theorem M_row_d15 : decode (zcode M_row) 15 = .ok (.ifCond .eq 9, 3) := by decide +kernel
theorem M_row_d21 : decode (zcode M_row) 21 = .ok (.if_icmp .le 5, 3) := by decide +kernel
theorem M_row_d25 : decode (zcode M_row) 25 = .ok (.ireturn, 1) := by decide +kernel
theorem M_row_d27 : decode (zcode M_row) 27 = .ok (.ifCond .ge 6, 3) := by decide +kernel
theorem M_row_d32 : decode (zcode M_row) 32 = .ok (.ireturn, 1) := by decide +kernel
theorem M_row_d61 : decode (zcode M_row) 61 = .ok (.if_icmp .ge 22, 3) := by decide +kernel
theorem M_row_d84 : decode (zcode M_row) 84 = .ok (.ireturn, 1) := by decide +kernel
theorem M_barsOfRow_s0 : zseg (zown M_barsOfRow) (zcode M_barsOfRow) 0 [(.aload_n 0, 1, 0, 0, 0), (.iload_n 1, 1, 0, 0, 0)] 2 = true := by decide +kernel
theorem M_barsOfRow_s8 : zseg (zown M_barsOfRow) (zcode M_barsOfRow) 8 [(.iconst (-1), 1, (-1), 0, 0), (.goto 33, 3, 0, 0, 0)] 42 = true := by decide +kernel
theorem M_barsOfRow_s12 : zseg (zown M_barsOfRow) (zcode M_barsOfRow) 12 [(.aload_n 0, 1, 0, 0, 0), (.getfield 87, 3, 0, 11, 43), (.iload_n 1, 1, 0, 0, 0), (.iaload, 1, 0, 0, 0)] 18 = true := by decide +kernel
theorem M_barsOfRow_s21 : zseg (zown M_barsOfRow) (zcode M_barsOfRow) 21 [(.bipush (-11), 2, (-11), 0, 0), (.goto 19, 3, 0, 0, 0)] 42 = true := by decide +kernel
theorem M_barsOfRow_s26 : zseg (zown M_barsOfRow) (zcode M_barsOfRow) 26 [(.aload_n 0, 1, 0, 0, 0), (.getfield 87, 3, 0, 11, 43), (.iload_n 1, 1, 0, 0, 0), (.iaload, 1, 0, 0, 0), (.iconst 1, 1, 1, 0, 0)] 33 = true := by decide +kernel
theorem M_barsOfRow_s36 : zseg (zown M_barsOfRow) (zcode M_barsOfRow) 36 [(.bipush (-12), 2, (-12), 0, 0), (.goto 4, 3, 0, 0, 0)] 42 = true := by decide +kernel
theorem M_barsOfRow_s41 : zseg (zown M_barsOfRow) (zcode M_barsOfRow) 41 [(.iconst 0, 1, 0, 0, 0)] 42 = true := by decide +kernel
theorem M_barsOfRow_d2 : decode (zcode M_barsOfRow) 2 = .ok (.invokevirtual 124, 3) := by decide +kernel
theorem M_barsOfRow_d5 : decode (zcode M_barsOfRow) 5 = .ok (.ifCond .ne 7, 3) := by decide +kernel
theorem M_barsOfRow_d42 : decode (zcode M_barsOfRow) 42 = .ok (.ireturn, 1) := by decide +kernel
theorem M_barsOfRow_d18 : decode (zcode M_barsOfRow) 18 = .ok (.ifCond .ne 8, 3) := by decide +kernel
theorem M_barsOfRow_d33 : decode (zcode M_barsOfRow) 33 = .ok (.if_icmp .ne 8, 3) := by decide +kernel
theorem M_isElement_s0 : zseg (zown M_isElement) (zcode M_isElement) 0 [(.iload_n 2, 1, 0, 0, 0)] 1 = true := by decide +kernel
theorem M_isElement_s4 : zseg (zown M_isElement) (zcode M_isElement) 4 [(.iload_n 2, 1, 0, 0, 0), (.aload_n 0, 1, 0, 0, 0), (.getfield 93, 3, 0, 11, 45), (.iload_n 1, 1, 0, 0, 0), (.iaload, 1, 0, 0, 0)] 11 = true := by decide +kernel
theorem M_isElement_s14 : zseg (zown M_isElement) (zcode M_isElement) 14 [(.iconst 1, 1, 1, 0, 0), (.goto 4, 3, 0, 0, 0)] 19 = true := by decide +kernel
theorem M_isElement_s18 : zseg (zown M_isElement) (zcode M_isElement) 18 [(.iconst 0, 1, 0, 0, 0)] 19 = true := by decide +kernel
theorem M_isElement_d1 : decode (zcode M_isElement) 1 = .ok (.ifCond .lt 17, 3) := by decide +kernel
theorem M_isElement_d11 : decode (zcode M_isElement) 11 = .ok (.if_icmp .ge 7, 3) := by decide +kernel
theorem M_isElement_d19 : decode (zcode M_isElement) 19 = .ok (.ireturn, 1) := by decide +kernel
theorem M_put_s0 : zseg (zown M_put) (zcode M_put) 0 [(.aload_n 0, 1, 0, 0, 0), (.iload_n 1, 1, 0, 0, 0)] 2 = true := by decide +kernel
theorem M_put_s5 : zseg (zown M_put) (zcode M_put) 5 [(.istore 5, 2, 0, 0, 0), (.iload 5, 2, 0, 0, 0)] 9 = true := by decide +kernel
theorem M_put_s12 : zseg (zown M_put) (zcode M_put) 12 [(.iload 5, 2, 0, 0, 0)] 14 = true := by decide +kernel
theorem M_put_s15 : zseg (zown M_put) (zcode M_put) 15 [(.aload_n 0, 1, 0, 0, 0), (.iload_n 1, 1, 0, 0, 0), (.iload_n 2, 1, 0, 0, 0)] 18 = true := by decide +kernel
theorem M_put_s24 : zseg (zown M_put) (zcode M_put) 24 [(.bipush (-13), 2, (-13), 0, 0)] 26 = true := by decide +kernel
theorem M_put_s27 : zseg (zown M_put) (zcode M_put) 27 [(.aload_n 0, 1, 0, 0, 0), (.getfield 99, 3, 0, 11, 47), (.bipush 60, 2, 60, 0, 0), (.iload_n 1, 1, 0, 0, 0), (.imul, 1, 0, 0, 0), (.iload_n 2, 1, 0, 0, 0), (.iadd, 1, 0, 0, 0), (.aload_n 0, 1, 0, 0, 0), (.getfield 90, 3, 0, 11, 44), (.iload_n 1, 1, 0, 0, 0), (.iaload, 1, 0, 0, 0)] 43 = true := by decide +kernel
theorem M_put_s46 : zseg (zown M_put) (zcode M_put) 46 [(.lload_n 3, 1, 0, 0, 0), (.l2i, 1, 0, 0, 0), (.i2b, 1, 0, 0, 0), (.i2l, 1, 0, 0, 0), (.goto 61, 3, 0, 0, 0), (.lastore, 1, 0, 0, 0), (.iconst 1, 1, 1, 0, 0)] 113 = true := by decide +kernel
theorem M_put_s53 : zseg (zown M_put) (zcode M_put) 53 [(.aload_n 0, 1, 0, 0, 0), (.getfield 90, 3, 0, 11, 44), (.iload_n 1, 1, 0, 0, 0), (.iaload, 1, 0, 0, 0), (.iconst 1, 1, 1, 0, 0)] 60 = true := by decide +kernel
theorem M_put_s63 : zseg (zown M_put) (zcode M_put) 63 [(.lload_n 3, 1, 0, 0, 0), (.l2i, 1, 0, 0, 0), (.i2s, 1, 0, 0, 0), (.i2l, 1, 0, 0, 0), (.goto 44, 3, 0, 0, 0), (.lastore, 1, 0, 0, 0), (.iconst 1, 1, 1, 0, 0)] 113 = true := by decide +kernel
theorem M_put_s70 : zseg (zown M_put) (zcode M_put) 70 [(.aload_n 0, 1, 0, 0, 0), (.getfield 90, 3, 0, 11, 44), (.iload_n 1, 1, 0, 0, 0), (.iaload, 1, 0, 0, 0), (.iconst 2, 1, 2, 0, 0)] 77 = true := by decide +kernel
theorem M_put_s80 : zseg (zown M_put) (zcode M_put) 80 [(.lload_n 3, 1, 0, 0, 0), (.l2i, 1, 0, 0, 0), (.i2l, 1, 0, 0, 0), (.goto 28, 3, 0, 0, 0), (.lastore, 1, 0, 0, 0), (.iconst 1, 1, 1, 0, 0)] 113 = true := by decide +kernel
theorem M_put_s86 : zseg (zown M_put) (zcode M_put) 86 [(.aload_n 0, 1, 0, 0, 0), (.getfield 90, 3, 0, 11, 44), (.iload_n 1, 1, 0, 0, 0), (.iaload, 1, 0, 0, 0), (.iconst 3, 1, 3, 0, 0)] 93 = true := by decide +kernel
theorem M_put_s96 : zseg (zown M_put) (zcode M_put) 96 [(.lload_n 3, 1, 0, 0, 0), (.goto 14, 3, 0, 0, 0), (.lastore, 1, 0, 0, 0), (.iconst 1, 1, 1, 0, 0)] 113 = true := by decide +kernel
theorem M_put_s100 : zseg (zown M_put) (zcode M_put) 100 [(.lload_n 3, 1, 0, 0, 0), (.lconst 0, 1, 0, 0, 0), (.lcmp, 1, 0, 0, 0)] 103 = true := by decide +kernel
theorem M_put_s106 : zseg (zown M_put) (zcode M_put) 106 [(.lconst 1, 1, 0, 0, 0), (.goto 4, 3, 0, 0, 0), (.lastore, 1, 0, 0, 0), (.iconst 1, 1, 1, 0, 0)] 113 = true := by decide +kernel
theorem M_put_s110 : zseg (zown M_put) (zcode M_put) 110 [(.lconst 0, 1, 0, 0, 0), (.lastore, 1, 0, 0, 0), (.iconst 1, 1, 1, 0, 0)] 113 = true := by decide +kernel
theorem M_put_d2 : decode (zcode M_put) 2 = .ok (.invokevirtual 379, 3) := by decide +kernel
theorem M_put_d9 : decode (zcode M_put) 9 = .ok (.ifCond .eq 6, 3) := by decide +kernel
theorem M_put_d14 : decode (zcode M_put) 14 = .ok (.ireturn, 1) := by decide +kernel
theorem M_put_d18 : decode (zcode M_put) 18 = .ok (.invokevirtual 382, 3) := by decide +kernel
theorem M_put_d21 : decode (zcode M_put) 21 = .ok (.ifCond .ne 6, 3) := by decide +kernel
theorem M_put_d26 : decode (zcode M_put) 26 = .ok (.ireturn, 1) := by decide +kernel
theorem M_put_d43 : decode (zcode M_put) 43 = .ok (.ifCond .ne 10, 3) := by decide +kernel
theorem M_put_d113 : decode (zcode M_put) 113 = .ok (.ireturn, 1) := by decide +kernel
theorem M_put_d60 : decode (zcode M_put) 60 = .ok (.if_icmp .ne 10, 3) := by decide +kernel
theorem M_put_d77 : decode (zcode M_put) 77 = .ok (.if_icmp .ne 9, 3) := by decide +kernel
theorem M_put_d93 : decode (zcode M_put) 93 = .ok (.if_icmp .ne 7, 3) := by decide +kernel
theorem M_put_d103 : decode (zcode M_put) 103 = .ok (.ifCond .eq 7, 3) := by decide +kernel
theorem M_element_s0 : zseg (zown M_element) (zcode M_element) 0 [(.aload_n 0, 1, 0, 0, 0), (.iload_n 1, 1, 0, 0, 0)] 2 = true := by decide +kernel
theorem M_element_s8 : zseg (zown M_element) (zcode M_element) 8 [(.aload_n 0, 1, 0, 0, 0), (.iload_n 1, 1, 0, 0, 0), (.iload_n 2, 1, 0, 0, 0)] 11 = true := by decide +kernel
theorem M_element_s17 : zseg (zown M_element) (zcode M_element) 17 [(.aload_n 0, 1, 0, 0, 0), (.getfield 99, 3, 0, 11, 47), (.bipush 60, 2, 60, 0, 0), (.iload_n 1, 1, 0, 0, 0), (.imul, 1, 0, 0, 0), (.iload_n 2, 1, 0, 0, 0), (.iadd, 1, 0, 0, 0), (.laload, 1, 0, 0, 0), (.goto 6, 3, 0, 0, 0)] 34 = true := by decide +kernel
theorem M_element_s31 : zseg (zown M_element) (zcode M_element) 31 [(.ldc2_w 387, 3, 0, 0, 1)] 34 = true := by decide +kernel
theorem M_element_d2 : decode (zcode M_element) 2 = .ok (.invokevirtual 379, 3) := by decide +kernel
theorem M_element_d5 : decode (zcode M_element) 5 = .ok (.ifCond .ne 26, 3) := by decide +kernel
theorem M_element_d11 : decode (zcode M_element) 11 = .ok (.invokevirtual 382, 3) := by decide +kernel
theorem M_element_d14 : decode (zcode M_element) 14 = .ok (.ifCond .eq 17, 3) := by decide +kernel
theorem M_element_d34 : decode (zcode M_element) 34 = .ok (.lreturn, 1) := by decide +kernel
theorem M_shift_s0 : zseg (zown M_shift) (zcode M_shift) 0 [(.aload_n 0, 1, 0, 0, 0), (.iload_n 1, 1, 0, 0, 0)] 2 = true := by decide +kernel
theorem M_shift_s8 : zseg (zown M_shift) (zcode M_shift) 8 [(.aload_n 0, 1, 0, 0, 0), (.iload_n 3, 1, 0, 0, 0)] 10 = true := by decide +kernel
theorem M_shift_s16 : zseg (zown M_shift) (zcode M_shift) 16 [(.iconst (-1), 1, (-1), 0, 0)] 17 = true := by decide +kernel
theorem M_shift_s18 : zseg (zown M_shift) (zcode M_shift) 18 [(.aload_n 0, 1, 0, 0, 0), (.getfield 87, 3, 0, 11, 43), (.iload_n 1, 1, 0, 0, 0), (.iaload, 1, 0, 0, 0)] 24 = true := by decide +kernel
theorem M_shift_s27 : zseg (zown M_shift) (zcode M_shift) 27 [(.aload_n 0, 1, 0, 0, 0), (.getfield 87, 3, 0, 11, 43), (.iload_n 3, 1, 0, 0, 0), (.iaload, 1, 0, 0, 0)] 33 = true := by decide +kernel
theorem M_shift_s36 : zseg (zown M_shift) (zcode M_shift) 36 [(.bipush (-11), 2, (-11), 0, 0)] 38 = true := by decide +kernel
theorem M_shift_s39 : zseg (zown M_shift) (zcode M_shift) 39 [(.aload_n 0, 1, 0, 0, 0), (.getfield 87, 3, 0, 11, 43), (.iload_n 1, 1, 0, 0, 0), (.iaload, 1, 0, 0, 0), (.iconst 1, 1, 1, 0, 0)] 46 = true := by decide +kernel
theorem M_shift_s49 : zseg (zown M_shift) (zcode M_shift) 49 [(.aload_n 0, 1, 0, 0, 0), (.getfield 87, 3, 0, 11, 43), (.iload_n 3, 1, 0, 0, 0), (.iaload, 1, 0, 0, 0), (.iconst 1, 1, 1, 0, 0)] 56 = true := by decide +kernel
theorem M_shift_s59 : zseg (zown M_shift) (zcode M_shift) 59 [(.aload_n 0, 1, 0, 0, 0), (.getfield 90, 3, 0, 11, 44), (.iload_n 1, 1, 0, 0, 0), (.iaload, 1, 0, 0, 0), (.aload_n 0, 1, 0, 0, 0), (.getfield 90, 3, 0, 11, 44), (.iload_n 3, 1, 0, 0, 0), (.iaload, 1, 0, 0, 0)] 71 = true := by decide +kernel
theorem M_shift_s74 : zseg (zown M_shift) (zcode M_shift) 74 [(.bipush (-12), 2, (-12), 0, 0)] 76 = true := by decide +kernel
theorem M_shift_s77 : zseg (zown M_shift) (zcode M_shift) 77 [(.iload 5, 2, 0, 0, 0)] 79 = true := by decide +kernel
theorem M_shift_s82 : zseg (zown M_shift) (zcode M_shift) 82 [(.iload_n 2, 1, 0, 0, 0)] 83 = true := by decide +kernel
theorem M_shift_s86 : zseg (zown M_shift) (zcode M_shift) 86 [(.iload 4, 2, 0, 0, 0)] 88 = true := by decide +kernel
theorem M_shift_s91 : zseg (zown M_shift) (zcode M_shift) 91 [(.iload_n 2, 1, 0, 0, 0), (.aload_n 0, 1, 0, 0, 0), (.getfield 93, 3, 0, 11, 45), (.iload_n 1, 1, 0, 0, 0), (.iaload, 1, 0, 0, 0), (.iload 5, 2, 0, 0, 0), (.isub, 1, 0, 0, 0)] 101 = true := by decide +kernel
theorem M_shift_s104 : zseg (zown M_shift) (zcode M_shift) 104 [(.iload 4, 2, 0, 0, 0), (.aload_n 0, 1, 0, 0, 0), (.getfield 93, 3, 0, 11, 45), (.iload_n 3, 1, 0, 0, 0), (.iaload, 1, 0, 0, 0), (.iload 5, 2, 0, 0, 0), (.isub, 1, 0, 0, 0)] 115 = true := by decide +kernel
theorem M_shift_s118 : zseg (zown M_shift) (zcode M_shift) 118 [(.bipush (-13), 2, (-13), 0, 0)] 120 = true := by decide +kernel
theorem M_shift_s121 : zseg (zown M_shift) (zcode M_shift) 121 [(.iconst 0, 1, 0, 0, 0), (.istore 6, 2, 0, 0, 0)] 124 = true := by decide +kernel
theorem M_shift_s124 : zseg (zown M_shift) (zcode M_shift) 124 [(.iload 6, 2, 0, 0, 0), (.iload 5, 2, 0, 0, 0)] 128 = true := by decide +kernel
theorem M_shift_s131 : zseg (zown M_shift) (zcode M_shift) 131 [(.aload_n 0, 1, 0, 0, 0), (.getfield 103, 3, 0, 11, 48), (.iload 6, 2, 0, 0, 0), (.aload_n 0, 1, 0, 0, 0), (.getfield 99, 3, 0, 11, 47), (.bipush 60, 2, 60, 0, 0), (.iload_n 1, 1, 0, 0, 0), (.imul, 1, 0, 0, 0), (.iload_n 2, 1, 0, 0, 0), (.iadd, 1, 0, 0, 0), (.iload 6, 2, 0, 0, 0), (.iadd, 1, 0, 0, 0), (.laload, 1, 0, 0, 0), (.lastore, 1, 0, 0, 0), (.iinc 6 1, 3, 1, 0, 0), (.goto (-31), 3, 0, 0, 0)] 124 = true := by decide +kernel
theorem M_shift_s158 : zseg (zown M_shift) (zcode M_shift) 158 [(.iconst 0, 1, 0, 0, 0), (.istore 6, 2, 0, 0, 0)] 161 = true := by decide +kernel
theorem M_shift_s161 : zseg (zown M_shift) (zcode M_shift) 161 [(.iload 6, 2, 0, 0, 0), (.iload 5, 2, 0, 0, 0)] 165 = true := by decide +kernel
theorem M_shift_s168 : zseg (zown M_shift) (zcode M_shift) 168 [(.aload_n 0, 1, 0, 0, 0), (.getfield 99, 3, 0, 11, 47), (.bipush 60, 2, 60, 0, 0), (.iload_n 3, 1, 0, 0, 0), (.imul, 1, 0, 0, 0), (.iload 4, 2, 0, 0, 0), (.iadd, 1, 0, 0, 0), (.iload 6, 2, 0, 0, 0), (.iadd, 1, 0, 0, 0), (.aload_n 0, 1, 0, 0, 0), (.getfield 103, 3, 0, 11, 48), (.iload 6, 2, 0, 0, 0), (.laload, 1, 0, 0, 0), (.lastore, 1, 0, 0, 0), (.iinc 6 1, 3, 1, 0, 0), (.goto (-32), 3, 0, 0, 0)] 161 = true := by decide +kernel
theorem M_shift_s196 : zseg (zown M_shift) (zcode M_shift) 196 [(.iload 5, 2, 0, 0, 0)] 198 = true := by decide +kernel
theorem M_shift_d2 : decode (zcode M_shift) 2 = .ok (.invokevirtual 124, 3) := by decide +kernel
theorem M_shift_d5 : decode (zcode M_shift) 5 = .ok (.ifCond .eq 11, 3) := by decide +kernel
theorem M_shift_d10 : decode (zcode M_shift) 10 = .ok (.invokevirtual 124, 3) := by decide +kernel
theorem M_shift_d13 : decode (zcode M_shift) 13 = .ok (.ifCond .ne 5, 3) := by decide +kernel
theorem M_shift_d17 : decode (zcode M_shift) 17 = .ok (.ireturn, 1) := by decide +kernel
theorem M_shift_d24 : decode (zcode M_shift) 24 = .ok (.ifCond .eq 12, 3) := by decide +kernel
theorem M_shift_d33 : decode (zcode M_shift) 33 = .ok (.ifCond .ne 6, 3) := by decide +kernel
theorem M_shift_d38 : decode (zcode M_shift) 38 = .ok (.ireturn, 1) := by decide +kernel
theorem M_shift_d46 : decode (zcode M_shift) 46 = .ok (.if_icmp .eq 28, 3) := by decide +kernel
theorem M_shift_d56 : decode (zcode M_shift) 56 = .ok (.if_icmp .eq 18, 3) := by decide +kernel
theorem M_shift_d71 : decode (zcode M_shift) 71 = .ok (.if_icmp .eq 6, 3) := by decide +kernel
theorem M_shift_d76 : decode (zcode M_shift) 76 = .ok (.ireturn, 1) := by decide +kernel
theorem M_shift_d79 : decode (zcode M_shift) 79 = .ok (.ifCond .lt 39, 3) := by decide +kernel
theorem M_shift_d83 : decode (zcode M_shift) 83 = .ok (.ifCond .lt 35, 3) := by decide +kernel
theorem M_shift_d88 : decode (zcode M_shift) 88 = .ok (.ifCond .lt 30, 3) := by decide +kernel
theorem M_shift_d101 : decode (zcode M_shift) 101 = .ok (.if_icmp .gt 17, 3) := by decide +kernel
theorem M_shift_d115 : decode (zcode M_shift) 115 = .ok (.if_icmp .le 6, 3) := by decide +kernel
theorem M_shift_d120 : decode (zcode M_shift) 120 = .ok (.ireturn, 1) := by decide +kernel
theorem M_shift_d128 : decode (zcode M_shift) 128 = .ok (.if_icmp .ge 30, 3) := by decide +kernel
theorem M_shift_d165 : decode (zcode M_shift) 165 = .ok (.if_icmp .ge 31, 3) := by decide +kernel
theorem M_shift_d198 : decode (zcode M_shift) 198 = .ok (.ireturn, 1) := by decide +kernel
theorem M_taken_s0 : zseg (zown M_taken) (zcode M_taken) 0 [(.aload_n 0, 1, 0, 0, 0), (.iload_n 1, 1, 0, 0, 0)] 2 = true := by decide +kernel
theorem M_taken_s8 : zseg (zown M_taken) (zcode M_taken) 8 [(.aload_n 0, 1, 0, 0, 0), (.iload_n 2, 1, 0, 0, 0), (.iconst 0, 1, 0, 0, 0), (.bipush 7, 2, 7, 0, 0)] 13 = true := by decide +kernel
theorem M_taken_s19 : zseg (zown M_taken) (zcode M_taken) 19 [(.iconst (-1), 1, (-1), 0, 0)] 20 = true := by decide +kernel
theorem M_taken_s21 : zseg (zown M_taken) (zcode M_taken) 21 [(.aload_n 0, 1, 0, 0, 0), (.getfield 87, 3, 0, 11, 43), (.iload_n 1, 1, 0, 0, 0), (.iaload, 1, 0, 0, 0)] 27 = true := by decide +kernel
theorem M_taken_s30 : zseg (zown M_taken) (zcode M_taken) 30 [(.bipush (-11), 2, (-11), 0, 0)] 32 = true := by decide +kernel
theorem M_taken_s33 : zseg (zown M_taken) (zcode M_taken) 33 [(.aload_n 0, 1, 0, 0, 0), (.getfield 87, 3, 0, 11, 43), (.iload_n 1, 1, 0, 0, 0), (.iaload, 1, 0, 0, 0), (.iconst 2, 1, 2, 0, 0)] 40 = true := by decide +kernel
theorem M_taken_s43 : zseg (zown M_taken) (zcode M_taken) 43 [(.bipush (-12), 2, (-12), 0, 0)] 45 = true := by decide +kernel
theorem M_taken_s46 : zseg (zown M_taken) (zcode M_taken) 46 [(.aload_n 0, 1, 0, 0, 0), (.getfield 81, 3, 0, 11, 41), (.aload_n 0, 1, 0, 0, 0), (.getfield 96, 3, 0, 11, 46), (.iload_n 1, 1, 0, 0, 0), (.iaload, 1, 0, 0, 0), (.iaload, 1, 0, 0, 0), (.istore_n 3, 1, 0, 0, 0), (.iload_n 3, 1, 0, 0, 0), (.istore 4, 2, 0, 0, 0)] 61 = true := by decide +kernel
theorem M_taken_s61 : zseg (zown M_taken) (zcode M_taken) 61 [(.iload 4, 2, 0, 0, 0)] 63 = true := by decide +kernel
theorem M_taken_s66 : zseg (zown M_taken) (zcode M_taken) 66 [(.iload 4, 2, 0, 0, 0), (.iload_n 2, 1, 0, 0, 0)] 69 = true := by decide +kernel
theorem M_taken_s72 : zseg (zown M_taken) (zcode M_taken) 72 [(.iload_n 3, 1, 0, 0, 0)] 73 = true := by decide +kernel
theorem M_taken_s74 : zseg (zown M_taken) (zcode M_taken) 74 [(.aload_n 0, 1, 0, 0, 0), (.iload 4, 2, 0, 0, 0)] 77 = true := by decide +kernel
theorem M_taken_s80 : zseg (zown M_taken) (zcode M_taken) 80 [(.istore 4, 2, 0, 0, 0), (.goto (-21), 3, 0, 0, 0)] 61 = true := by decide +kernel
theorem M_taken_s85 : zseg (zown M_taken) (zcode M_taken) 85 [(.bipush (-12), 2, (-12), 0, 0)] 87 = true := by decide +kernel
theorem M_taken_d2 : decode (zcode M_taken) 2 = .ok (.invokevirtual 124, 3) := by decide +kernel
theorem M_taken_d5 : decode (zcode M_taken) 5 = .ok (.ifCond .eq 14, 3) := by decide +kernel
theorem M_taken_d13 : decode (zcode M_taken) 13 = .ok (.invokevirtual 112, 3) := by decide +kernel
theorem M_taken_d16 : decode (zcode M_taken) 16 = .ok (.ifCond .ne 5, 3) := by decide +kernel
theorem M_taken_d20 : decode (zcode M_taken) 20 = .ok (.ireturn, 1) := by decide +kernel
theorem M_taken_d27 : decode (zcode M_taken) 27 = .ok (.ifCond .ne 6, 3) := by decide +kernel
theorem M_taken_d32 : decode (zcode M_taken) 32 = .ok (.ireturn, 1) := by decide +kernel
theorem M_taken_d40 : decode (zcode M_taken) 40 = .ok (.if_icmp .ne 6, 3) := by decide +kernel
theorem M_taken_d45 : decode (zcode M_taken) 45 = .ok (.ireturn, 1) := by decide +kernel
theorem M_taken_d63 : decode (zcode M_taken) 63 = .ok (.ifCond .lt 22, 3) := by decide +kernel
theorem M_taken_d69 : decode (zcode M_taken) 69 = .ok (.if_icmp .ne 5, 3) := by decide +kernel
theorem M_taken_d73 : decode (zcode M_taken) 73 = .ok (.ireturn, 1) := by decide +kernel
theorem M_taken_d77 : decode (zcode M_taken) 77 = .ok (.invokevirtual 364, 3) := by decide +kernel
theorem M_taken_d87 : decode (zcode M_taken) 87 = .ok (.ireturn, 1) := by decide +kernel
theorem M_count_s0 : zseg (zown M_count) (zcode M_count) 0 [(.iload_n 1, 1, 0, 0, 0)] 1 = true := by decide +kernel
theorem M_count_s40 : zseg (zown M_count) (zcode M_count) 40 [(.aload_n 0, 1, 0, 0, 0), (.getfield 106, 3, 0, 11, 0)] 44 = true := by decide +kernel
theorem M_count_s45 : zseg (zown M_count) (zcode M_count) 45 [(.aload_n 0, 1, 0, 0, 0), (.getfield 109, 3, 0, 11, 1)] 49 = true := by decide +kernel
theorem M_count_s50 : zseg (zown M_count) (zcode M_count) 50 [(.aload_n 0, 1, 0, 0, 0), (.getfield 171, 3, 0, 11, 4)] 54 = true := by decide +kernel
theorem M_count_s55 : zseg (zown M_count) (zcode M_count) 55 [(.aload_n 0, 1, 0, 0, 0), (.getfield 134, 3, 0, 11, 22)] 59 = true := by decide +kernel
theorem M_count_s60 : zseg (zown M_count) (zcode M_count) 60 [(.aload_n 0, 1, 0, 0, 0), (.getfield 355, 3, 0, 11, 7)] 64 = true := by decide +kernel
theorem M_count_s65 : zseg (zown M_count) (zcode M_count) 65 [(.aload_n 0, 1, 0, 0, 0), (.getfield 358, 3, 0, 11, 6)] 69 = true := by decide +kernel
theorem M_count_s70 : zseg (zown M_count) (zcode M_count) 70 [(.iconst (-1), 1, (-1), 0, 0)] 71 = true := by decide +kernel
theorem M_count_d1 : decode (zcode M_count) 1 = .ok (.tableswitch 69 0 5 #[39, 44, 49, 54, 59, 64], 39) := by decide +kernel
theorem M_count_d44 : decode (zcode M_count) 44 = .ok (.ireturn, 1) := by decide +kernel
theorem M_count_d49 : decode (zcode M_count) 49 = .ok (.ireturn, 1) := by decide +kernel
theorem M_count_d54 : decode (zcode M_count) 54 = .ok (.ireturn, 1) := by decide +kernel
theorem M_count_d59 : decode (zcode M_count) 59 = .ok (.ireturn, 1) := by decide +kernel
theorem M_count_d64 : decode (zcode M_count) 64 = .ok (.ireturn, 1) := by decide +kernel
theorem M_count_d69 : decode (zcode M_count) 69 = .ok (.ireturn, 1) := by decide +kernel
theorem M_count_d71 : decode (zcode M_count) 71 = .ok (.ireturn, 1) := by decide +kernel
