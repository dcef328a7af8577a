/-! by program (wip/whole/gen_code.py): records, stretches, decode facts -/
theorem X_bell_s0 : zseg (zown X_bell) (zcode X_bell) 0 [(.iload_n 1, 1, 0, 0, 0)] 1 = true := by decide +kernel
theorem X_bell_s4 : zseg (zown X_bell) (zcode X_bell) 4 [(.iload_n 1, 1, 0, 0, 0), (.bipush 99, 2, 99, 0, 0)] 7 = true := by decide +kernel
theorem X_bell_s10 : zseg (zown X_bell) (zcode X_bell) 10 [(.iconst (-1), 1, (-1), 0, 0)] 11 = true := by decide +kernel
theorem X_bell_s12 : zseg (zown X_bell) (zcode X_bell) 12 [(.aload_n 0, 1, 0, 0, 0), (.getfield 10, 3, 0, 10, 0), (.getfield 74, 3, 0, 4, 7), (.bipush 6, 2, 6, 0, 0)] 21 = true := by decide +kernel
theorem X_bell_s24 : zseg (zown X_bell) (zcode X_bell) 24 [(.aload_n 0, 1, 0, 0, 0), (.getfield 10, 3, 0, 10, 0), (.iload_n 1, 1, 0, 0, 0)] 29 = true := by decide +kernel
theorem X_bell_s32 : zseg (zown X_bell) (zcode X_bell) 32 [(.goto 5, 3, 0, 0, 0)] 37 = true := by decide +kernel
theorem X_bell_s35 : zseg (zown X_bell) (zcode X_bell) 35 [(.bipush (-3), 2, (-3), 0, 0)] 37 = true := by decide +kernel
theorem X_bell_d1 : decode (zcode X_bell) 1 = .ok (.ifCond .lt 9, 3) := by decide +kernel
theorem X_bell_d7 : decode (zcode X_bell) 7 = .ok (.if_icmp .le 5, 3) := by decide +kernel
theorem X_bell_d11 : decode (zcode X_bell) 11 = .ok (.ireturn, 1) := by decide +kernel
theorem X_bell_d21 : decode (zcode X_bell) 21 = .ok (.if_icmp .ge 14, 3) := by decide +kernel
theorem X_bell_d29 : decode (zcode X_bell) 29 = .ok (.invokevirtual 78, 3) := by decide +kernel
theorem X_bell_d37 : decode (zcode X_bell) 37 = .ok (.ireturn, 1) := by decide +kernel
theorem X_vow_s0 : zseg (zown X_vow) (zcode X_vow) 0 [(.aload_n 0, 1, 0, 0, 0), (.getfield 10, 3, 0, 10, 0), (.iload_n 1, 1, 0, 0, 0), (.iload_n 2, 1, 0, 0, 0), (.iconst 0, 1, 0, 0, 0)] 7 = true := by decide +kernel
theorem X_vow_s13 : zseg (zown X_vow) (zcode X_vow) 13 [(.iconst (-1), 1, (-1), 0, 0)] 14 = true := by decide +kernel
theorem X_vow_s15 : zseg (zown X_vow) (zcode X_vow) 15 [(.aload_n 0, 1, 0, 0, 0), (.getfield 10, 3, 0, 10, 0), (.getfield 86, 3, 0, 4, 8), (.bipush 12, 2, 12, 0, 0)] 24 = true := by decide +kernel
theorem X_vow_s27 : zseg (zown X_vow) (zcode X_vow) 27 [(.aload_n 0, 1, 0, 0, 0), (.getfield 10, 3, 0, 10, 0), (.iload_n 1, 1, 0, 0, 0), (.iload_n 2, 1, 0, 0, 0), (.iconst 0, 1, 0, 0, 0)] 34 = true := by decide +kernel
theorem X_vow_s37 : zseg (zown X_vow) (zcode X_vow) 37 [(.goto 5, 3, 0, 0, 0)] 42 = true := by decide +kernel
theorem X_vow_s40 : zseg (zown X_vow) (zcode X_vow) 40 [(.bipush (-3), 2, (-3), 0, 0)] 42 = true := by decide +kernel
theorem X_vow_d7 : decode (zcode X_vow) 7 = .ok (.invokevirtual 82, 3) := by decide +kernel
theorem X_vow_d10 : decode (zcode X_vow) 10 = .ok (.ifCond .ne 5, 3) := by decide +kernel
theorem X_vow_d14 : decode (zcode X_vow) 14 = .ok (.ireturn, 1) := by decide +kernel
theorem X_vow_d24 : decode (zcode X_vow) 24 = .ok (.if_icmp .ge 16, 3) := by decide +kernel
theorem X_vow_d34 : decode (zcode X_vow) 34 = .ok (.invokevirtual 89, 3) := by decide +kernel
theorem X_vow_d42 : decode (zcode X_vow) 42 = .ok (.ireturn, 1) := by decide +kernel
theorem X_vows_s0 : zseg (zown X_vows) (zcode X_vows) 0 [(.aload_n 0, 1, 0, 0, 0), (.iload_n 1, 1, 0, 0, 0)] 2 = true := by decide +kernel
theorem X_vows_s5 : zseg (zown X_vows) (zcode X_vows) 5 [(.astore 4, 2, 0, 0, 0), (.aload 4, 2, 0, 0, 0)] 9 = true := by decide +kernel
theorem X_vows_s12 : zseg (zown X_vows) (zcode X_vows) 12 [(.iload_n 3, 1, 0, 0, 0), (.iconst 1, 1, 1, 0, 0)] 14 = true := by decide +kernel
theorem X_vows_s17 : zseg (zown X_vows) (zcode X_vows) 17 [(.iload_n 3, 1, 0, 0, 0), (.bipush 12, 2, 12, 0, 0)] 20 = true := by decide +kernel
theorem X_vows_s23 : zseg (zown X_vows) (zcode X_vows) 23 [(.iconst (-1), 1, (-1), 0, 0)] 24 = true := by decide +kernel
theorem X_vows_s25 : zseg (zown X_vows) (zcode X_vows) 25 [(.aload 4, 2, 0, 0, 0)] 27 = true := by decide +kernel
theorem X_vows_s33 : zseg (zown X_vows) (zcode X_vows) 33 [(.iconst 0, 1, 0, 0, 0)] 34 = true := by decide +kernel
theorem X_vows_s35 : zseg (zown X_vows) (zcode X_vows) 35 [(.aload 4, 2, 0, 0, 0), (.iconst 0, 1, 0, 0, 0)] 38 = true := by decide +kernel
theorem X_vows_s44 : zseg (zown X_vows) (zcode X_vows) 44 [(.aload_n 0, 1, 0, 0, 0), (.aload 4, 2, 0, 0, 0), (.iload_n 2, 1, 0, 0, 0), (.iload_n 3, 1, 0, 0, 0)] 49 = true := by decide +kernel
theorem X_vows_s52 : zseg (zown X_vows) (zcode X_vows) 52 [(.goto 5, 3, 0, 0, 0)] 57 = true := by decide +kernel
theorem X_vows_s55 : zseg (zown X_vows) (zcode X_vows) 55 [(.bipush (-12), 2, (-12), 0, 0)] 57 = true := by decide +kernel
theorem X_vows_d2 : decode (zcode X_vows) 2 = .ok (.invokevirtual 93, 3) := by decide +kernel
theorem X_vows_d9 : decode (zcode X_vows) 9 = .ok (.ifnull 14, 3) := by decide +kernel
theorem X_vows_d14 : decode (zcode X_vows) 14 = .ok (.if_icmp .lt 9, 3) := by decide +kernel
theorem X_vows_d20 : decode (zcode X_vows) 20 = .ok (.if_icmp .le 5, 3) := by decide +kernel
theorem X_vows_d24 : decode (zcode X_vows) 24 = .ok (.ireturn, 1) := by decide +kernel
theorem X_vows_d27 : decode (zcode X_vows) 27 = .ok (.invokevirtual 97, 3) := by decide +kernel
theorem X_vows_d30 : decode (zcode X_vows) 30 = .ok (.ifCond .eq 5, 3) := by decide +kernel
theorem X_vows_d34 : decode (zcode X_vows) 34 = .ok (.ireturn, 1) := by decide +kernel
theorem X_vows_d38 : decode (zcode X_vows) 38 = .ok (.invokevirtual 101, 3) := by decide +kernel
theorem X_vows_d41 : decode (zcode X_vows) 41 = .ok (.ifCond .eq 14, 3) := by decide +kernel
theorem X_vows_d49 : decode (zcode X_vows) 49 = .ok (.invokevirtual 105, 3) := by decide +kernel
theorem X_vows_d57 : decode (zcode X_vows) 57 = .ok (.ireturn, 1) := by decide +kernel
theorem X_mend_s0 : zseg (zown X_mend) (zcode X_mend) 0 [(.aload_n 0, 1, 0, 0, 0), (.getfield 10, 3, 0, 10, 0), (.iload_n 1, 1, 0, 0, 0), (.iload_n 2, 1, 0, 0, 0)] 6 = true := by decide +kernel
theorem X_mend_s12 : zseg (zown X_mend) (zcode X_mend) 12 [(.aload_n 0, 1, 0, 0, 0), (.getfield 10, 3, 0, 10, 0), (.iload_n 2, 1, 0, 0, 0), (.iload_n 3, 1, 0, 0, 0)] 18 = true := by decide +kernel
theorem X_mend_s24 : zseg (zown X_mend) (zcode X_mend) 24 [(.iconst (-1), 1, (-1), 0, 0)] 25 = true := by decide +kernel
theorem X_mend_s26 : zseg (zown X_mend) (zcode X_mend) 26 [(.aload_n 0, 1, 0, 0, 0), (.getfield 10, 3, 0, 10, 0), (.iload_n 1, 1, 0, 0, 0), (.iload_n 2, 1, 0, 0, 0)] 32 = true := by decide +kernel
theorem X_mend_s35 : zseg (zown X_mend) (zcode X_mend) 35 [(.istore 4, 2, 0, 0, 0), (.iload 4, 2, 0, 0, 0), (.iload_n 3, 1, 0, 0, 0)] 40 = true := by decide +kernel
theorem X_mend_s43 : zseg (zown X_mend) (zcode X_mend) 43 [(.aload_n 0, 1, 0, 0, 0), (.getfield 10, 3, 0, 10, 0), (.iload_n 1, 1, 0, 0, 0), (.iload_n 2, 1, 0, 0, 0), (.iload_n 3, 1, 0, 0, 0)] 50 = true := by decide +kernel
theorem X_mend_s53 : zseg (zown X_mend) (zcode X_mend) 53 [(.aload_n 0, 1, 0, 0, 0), (.getfield 56, 3, 0, 10, 6), (.iload_n 1, 1, 0, 0, 0), (.iload_n 2, 1, 0, 0, 0), (.iload 4, 2, 0, 0, 0), (.iload_n 3, 1, 0, 0, 0)] 62 = true := by decide +kernel
theorem X_mend_s65 : zseg (zown X_mend) (zcode X_mend) 65 [(.iload 4, 2, 0, 0, 0)] 67 = true := by decide +kernel
theorem X_mend_d6 : decode (zcode X_mend) 6 = .ok (.invokevirtual 109, 3) := by decide +kernel
theorem X_mend_d9 : decode (zcode X_mend) 9 = .ok (.ifCond .eq 15, 3) := by decide +kernel
theorem X_mend_d18 : decode (zcode X_mend) 18 = .ok (.invokevirtual 113, 3) := by decide +kernel
theorem X_mend_d21 : decode (zcode X_mend) 21 = .ok (.ifCond .ne 5, 3) := by decide +kernel
theorem X_mend_d25 : decode (zcode X_mend) 25 = .ok (.ireturn, 1) := by decide +kernel
theorem X_mend_d32 : decode (zcode X_mend) 32 = .ok (.invokevirtual 116, 3) := by decide +kernel
theorem X_mend_d40 : decode (zcode X_mend) 40 = .ok (.if_icmp .eq 25, 3) := by decide +kernel
theorem X_mend_d50 : decode (zcode X_mend) 50 = .ok (.invokevirtual 120, 3) := by decide +kernel
theorem X_mend_d62 : decode (zcode X_mend) 62 = .ok (.invokevirtual 124, 3) := by decide +kernel
theorem X_mend_d67 : decode (zcode X_mend) 67 = .ok (.ireturn, 1) := by decide +kernel
theorem X_of_s0 : zseg (zown X_of) (zcode X_of) 0 [(.iload_n 2, 1, 0, 0, 0), (.bipush 10, 2, 10, 0, 0)] 3 = true := by decide +kernel
theorem X_of_s6 : zseg (zown X_of) (zcode X_of) 6 [(.aload_n 0, 1, 0, 0, 0), (.getfield 10, 3, 0, 10, 0), (.iload_n 1, 1, 0, 0, 0)] 11 = true := by decide +kernel
theorem X_of_s17 : zseg (zown X_of) (zcode X_of) 17 [(.aload_n 0, 1, 0, 0, 0), (.getfield 10, 3, 0, 10, 0), (.iload_n 1, 1, 0, 0, 0), (.aload_n 0, 1, 0, 0, 0), (.getfield 49, 3, 0, 10, 5), (.getfield 131, 3, 0, 3, 2)] 29 = true := by decide +kernel
theorem X_of_s35 : zseg (zown X_of) (zcode X_of) 35 [(.goto 4, 3, 0, 0, 0)] 39 = true := by decide +kernel
theorem X_of_s38 : zseg (zown X_of) (zcode X_of) 38 [(.iconst (-1), 1, (-1), 0, 0)] 39 = true := by decide +kernel
theorem X_of_s40 : zseg (zown X_of) (zcode X_of) 40 [(.iload_n 2, 1, 0, 0, 0), (.bipush 11, 2, 11, 0, 0)] 43 = true := by decide +kernel
theorem X_of_s46 : zseg (zown X_of) (zcode X_of) 46 [(.iload_n 1, 1, 0, 0, 0)] 47 = true := by decide +kernel
theorem X_of_s50 : zseg (zown X_of) (zcode X_of) 50 [(.aload_n 0, 1, 0, 0, 0), (.getfield 49, 3, 0, 10, 5), (.getfield 131, 3, 0, 3, 2), (.goto 4, 3, 0, 0, 0)] 61 = true := by decide +kernel
theorem X_of_s60 : zseg (zown X_of) (zcode X_of) 60 [(.iconst (-1), 1, (-1), 0, 0)] 61 = true := by decide +kernel
theorem X_of_s62 : zseg (zown X_of) (zcode X_of) 62 [(.aload_n 0, 1, 0, 0, 0), (.getfield 10, 3, 0, 10, 0), (.iload_n 1, 1, 0, 0, 0), (.iload_n 2, 1, 0, 0, 0)] 68 = true := by decide +kernel
theorem X_of_s74 : zseg (zown X_of) (zcode X_of) 74 [(.aload_n 0, 1, 0, 0, 0), (.getfield 10, 3, 0, 10, 0), (.iload_n 1, 1, 0, 0, 0), (.iload_n 2, 1, 0, 0, 0)] 80 = true := by decide +kernel
theorem X_of_s83 : zseg (zown X_of) (zcode X_of) 83 [(.goto 4, 3, 0, 0, 0)] 87 = true := by decide +kernel
theorem X_of_s86 : zseg (zown X_of) (zcode X_of) 86 [(.iconst (-1), 1, (-1), 0, 0)] 87 = true := by decide +kernel
theorem X_of_d3 : decode (zcode X_of) 3 = .ok (.if_icmp .ne 37, 3) := by decide +kernel
theorem X_of_d11 : decode (zcode X_of) 11 = .ok (.invokevirtual 128, 3) := by decide +kernel
theorem X_of_d14 : decode (zcode X_of) 14 = .ok (.ifCond .eq 24, 3) := by decide +kernel
theorem X_of_d29 : decode (zcode X_of) 29 = .ok (.invokevirtual 134, 3) := by decide +kernel
theorem X_of_d32 : decode (zcode X_of) 32 = .ok (.invokestatic 137, 3) := by decide +kernel
theorem X_of_d39 : decode (zcode X_of) 39 = .ok (.ireturn, 1) := by decide +kernel
theorem X_of_d43 : decode (zcode X_of) 43 = .ok (.if_icmp .ne 19, 3) := by decide +kernel
theorem X_of_d47 : decode (zcode X_of) 47 = .ok (.ifCond .ne 13, 3) := by decide +kernel
theorem X_of_d61 : decode (zcode X_of) 61 = .ok (.ireturn, 1) := by decide +kernel
theorem X_of_d68 : decode (zcode X_of) 68 = .ok (.invokevirtual 109, 3) := by decide +kernel
theorem X_of_d71 : decode (zcode X_of) 71 = .ok (.ifCond .eq 15, 3) := by decide +kernel
theorem X_of_d80 : decode (zcode X_of) 80 = .ok (.invokevirtual 116, 3) := by decide +kernel
theorem X_of_d87 : decode (zcode X_of) 87 = .ok (.ireturn, 1) := by decide +kernel
theorem X_feed_s0 : zseg (zown X_feed) (zcode X_feed) 0 [(.iload_n 1, 1, 0, 0, 0)] 1 = true := by decide +kernel
theorem X_feed_s4 : zseg (zown X_feed) (zcode X_feed) 4 [(.iload_n 1, 1, 0, 0, 0), (.sipush 255, 3, 255, 0, 0)] 8 = true := by decide +kernel
theorem X_feed_s11 : zseg (zown X_feed) (zcode X_feed) 11 [(.iconst (-1), 1, (-1), 0, 0)] 12 = true := by decide +kernel
theorem X_feed_s13 : zseg (zown X_feed) (zcode X_feed) 13 [(.aload_n 0, 1, 0, 0, 0), (.getfield 19, 3, 0, 10, 1), (.iload_n 1, 1, 0, 0, 0)] 18 = true := by decide +kernel
theorem X_feed_s24 : zseg (zown X_feed) (zcode X_feed) 24 [(.aload_n 0, 1, 0, 0, 0), (.getfield 19, 3, 0, 10, 1), (.getfield 143, 3, 0, 7, 1), (.goto 5, 3, 0, 0, 0)] 36 = true := by decide +kernel
theorem X_feed_s34 : zseg (zown X_feed) (zcode X_feed) 34 [(.bipush (-3), 2, (-3), 0, 0)] 36 = true := by decide +kernel
theorem X_feed_d1 : decode (zcode X_feed) 1 = .ok (.ifCond .lt 10, 3) := by decide +kernel
theorem X_feed_d8 : decode (zcode X_feed) 8 = .ok (.if_icmp .le 5, 3) := by decide +kernel
theorem X_feed_d12 : decode (zcode X_feed) 12 = .ok (.ireturn, 1) := by decide +kernel
theorem X_feed_d18 : decode (zcode X_feed) 18 = .ok (.invokevirtual 141, 3) := by decide +kernel
theorem X_feed_d21 : decode (zcode X_feed) 21 = .ok (.ifCond .eq 13, 3) := by decide +kernel
theorem X_feed_d36 : decode (zcode X_feed) 36 = .ok (.ireturn, 1) := by decide +kernel
theorem X_law_s0 : zseg (zown X_law) (zcode X_law) 0 [(.aload_n 0, 1, 0, 0, 0), (.getfield 19, 3, 0, 10, 1)] 4 = true := by decide +kernel
theorem X_law_s7 : zseg (zown X_law) (zcode X_law) 7 [(.istore_n 1, 1, 0, 0, 0), (.aload_n 0, 1, 0, 0, 0), (.getfield 19, 3, 0, 10, 1), (.iconst 0, 1, 0, 0, 0), (.putfield 143, 3, 0, 7, 1), (.iload_n 1, 1, 0, 0, 0)] 17 = true := by decide +kernel
theorem X_law_s20 : zseg (zown X_law) (zcode X_law) 20 [(.bipush (-100), 2, (-100), 0, 0), (.aload_n 0, 1, 0, 0, 0), (.getfield 19, 3, 0, 10, 1), (.getfield 149, 3, 0, 7, 2), (.isub, 1, 0, 0, 0)] 30 = true := by decide +kernel
theorem X_law_s31 : zseg (zown X_law) (zcode X_law) 31 [(.aload_n 0, 1, 0, 0, 0), (.getfield 10, 3, 0, 10, 0), (.aload_n 0, 1, 0, 0, 0), (.getfield 19, 3, 0, 10, 1), (.aload_n 0, 1, 0, 0, 0), (.getfield 10, 3, 0, 10, 0), (.getfield 152, 3, 0, 4, 10)] 46 = true := by decide +kernel
theorem X_law_s49 : zseg (zown X_law) (zcode X_law) 49 [(.putfield 152, 3, 0, 4, 10), (.iconst 1, 1, 1, 0, 0)] 53 = true := by decide +kernel
theorem X_law_d4 : decode (zcode X_law) 4 = .ok (.invokevirtual 146, 3) := by decide +kernel
theorem X_law_d17 : decode (zcode X_law) 17 = .ok (.ifCond .ne 14, 3) := by decide +kernel
theorem X_law_d30 : decode (zcode X_law) 30 = .ok (.ireturn, 1) := by decide +kernel
theorem X_law_d46 : decode (zcode X_law) 46 = .ok (.invokevirtual 156, 3) := by decide +kernel
theorem X_law_d53 : decode (zcode X_law) 53 = .ok (.ireturn, 1) := by decide +kernel
theorem X_puts_s0 : zseg (zown X_puts) (zcode X_puts) 0 [(.aload_n 0, 1, 0, 0, 0), (.getfield 10, 3, 0, 10, 0), (.iload_n 1, 1, 0, 0, 0)] 5 = true := by decide +kernel
theorem X_puts_s11 : zseg (zown X_puts) (zcode X_puts) 11 [(.iload_n 2, 1, 0, 0, 0)] 12 = true := by decide +kernel
theorem X_puts_s18 : zseg (zown X_puts) (zcode X_puts) 18 [(.ldc 163, 2, (-2000000000), 0, 0)] 20 = true := by decide +kernel
theorem X_puts_s21 : zseg (zown X_puts) (zcode X_puts) 21 [(.aload_n 0, 1, 0, 0, 0), (.getfield 10, 3, 0, 10, 0), (.iload_n 1, 1, 0, 0, 0), (.iload_n 2, 1, 0, 0, 0), (.bipush 100, 2, 100, 0, 0), (.idiv, 1, 0, 0, 0), (.iload_n 2, 1, 0, 0, 0), (.bipush 100, 2, 100, 0, 0), (.irem, 1, 0, 0, 0)] 34 = true := by decide +kernel
theorem X_puts_d5 : decode (zcode X_puts) 5 = .ok (.invokevirtual 128, 3) := by decide +kernel
theorem X_puts_d8 : decode (zcode X_puts) 8 = .ok (.ifCond .eq 10, 3) := by decide +kernel
theorem X_puts_d12 : decode (zcode X_puts) 12 = .ok (.invokestatic 160, 3) := by decide +kernel
theorem X_puts_d15 : decode (zcode X_puts) 15 = .ok (.ifCond .ne 6, 3) := by decide +kernel
theorem X_puts_d20 : decode (zcode X_puts) 20 = .ok (.ireturn, 1) := by decide +kernel
theorem X_puts_d34 : decode (zcode X_puts) 34 = .ok (.invokevirtual 164, 3) := by decide +kernel
theorem X_puts_d37 : decode (zcode X_puts) 37 = .ok (.ireturn, 1) := by decide +kernel
theorem X_pitch_s0 : zseg (zown X_pitch) (zcode X_pitch) 0 [(.aload_n 0, 1, 0, 0, 0), (.getfield 10, 3, 0, 10, 0), (.iload_n 1, 1, 0, 0, 0)] 5 = true := by decide +kernel
theorem X_pitch_s11 : zseg (zown X_pitch) (zcode X_pitch) 11 [(.iload_n 2, 1, 0, 0, 0)] 12 = true := by decide +kernel
theorem X_pitch_s18 : zseg (zown X_pitch) (zcode X_pitch) 18 [(.iload_n 3, 1, 0, 0, 0), (.iconst 1, 1, 1, 0, 0)] 20 = true := by decide +kernel
theorem X_pitch_s26 : zseg (zown X_pitch) (zcode X_pitch) 26 [(.ldc 163, 2, (-2000000000), 0, 0)] 28 = true := by decide +kernel
theorem X_pitch_s29 : zseg (zown X_pitch) (zcode X_pitch) 29 [(.aload_n 0, 1, 0, 0, 0), (.getfield 10, 3, 0, 10, 0), (.iload_n 1, 1, 0, 0, 0), (.iload_n 2, 1, 0, 0, 0), (.bipush 100, 2, 100, 0, 0), (.idiv, 1, 0, 0, 0), (.iload_n 2, 1, 0, 0, 0), (.bipush 100, 2, 100, 0, 0), (.irem, 1, 0, 0, 0)] 42 = true := by decide +kernel
theorem X_pitch_s45 : zseg (zown X_pitch) (zcode X_pitch) 45 [(.istore 4, 2, 0, 0, 0), (.iload_n 3, 1, 0, 0, 0)] 48 = true := by decide +kernel
theorem X_pitch_s51 : zseg (zown X_pitch) (zcode X_pitch) 51 [(.aload_n 0, 1, 0, 0, 0), (.getfield 10, 3, 0, 10, 0), (.getfield 176, 3, 0, 4, 0), (.iload_n 1, 1, 0, 0, 0), (.iaload, 1, 0, 0, 0), (.iload 4, 2, 0, 0, 0), (.iadd, 1, 0, 0, 0), (.goto 5, 3, 0, 0, 0)] 68 = true := by decide +kernel
theorem X_pitch_s66 : zseg (zown X_pitch) (zcode X_pitch) 66 [(.iload 4, 2, 0, 0, 0)] 68 = true := by decide +kernel
theorem X_pitch_d5 : decode (zcode X_pitch) 5 = .ok (.invokevirtual 167, 3) := by decide +kernel
theorem X_pitch_d8 : decode (zcode X_pitch) 8 = .ok (.ifCond .eq 18, 3) := by decide +kernel
theorem X_pitch_d12 : decode (zcode X_pitch) 12 = .ok (.invokestatic 160, 3) := by decide +kernel
theorem X_pitch_d15 : decode (zcode X_pitch) 15 = .ok (.ifCond .eq 11, 3) := by decide +kernel
theorem X_pitch_d20 : decode (zcode X_pitch) 20 = .ok (.invokestatic 170, 3) := by decide +kernel
theorem X_pitch_d23 : decode (zcode X_pitch) 23 = .ok (.ifCond .ne 6, 3) := by decide +kernel
theorem X_pitch_d28 : decode (zcode X_pitch) 28 = .ok (.ireturn, 1) := by decide +kernel
theorem X_pitch_d42 : decode (zcode X_pitch) 42 = .ok (.invokevirtual 173, 3) := by decide +kernel
theorem X_pitch_d48 : decode (zcode X_pitch) 48 = .ok (.ifCond .ne 18, 3) := by decide +kernel
theorem X_pitch_d68 : decode (zcode X_pitch) 68 = .ok (.ireturn, 1) := by decide +kernel
theorem X_town_s0 : zseg (zown X_town) (zcode X_town) 0 [(.iload_n 1, 1, 0, 0, 0)] 1 = true := by decide +kernel
theorem X_town_s7 : zseg (zown X_town) (zcode X_town) 7 [(.iload_n 2, 1, 0, 0, 0), (.iconst 3, 1, 3, 0, 0)] 9 = true := by decide +kernel
theorem X_town_s15 : zseg (zown X_town) (zcode X_town) 15 [(.iconst (-1), 1, (-1), 0, 0)] 16 = true := by decide +kernel
theorem X_town_s17 : zseg (zown X_town) (zcode X_town) 17 [(.iload_n 1, 1, 0, 0, 0), (.bipush 100, 2, 100, 0, 0), (.idiv, 1, 0, 0, 0), (.istore_n 3, 1, 0, 0, 0), (.iload_n 1, 1, 0, 0, 0), (.bipush 100, 2, 100, 0, 0), (.irem, 1, 0, 0, 0), (.istore 4, 2, 0, 0, 0), (.iload_n 2, 1, 0, 0, 0)] 29 = true := by decide +kernel
theorem X_town_s56 : zseg (zown X_town) (zcode X_town) 56 [(.aload_n 0, 1, 0, 0, 0), (.getfield 28, 3, 0, 10, 2), (.iload_n 3, 1, 0, 0, 0), (.iload 4, 2, 0, 0, 0)] 63 = true := by decide +kernel
theorem X_town_s67 : zseg (zown X_town) (zcode X_town) 67 [(.aload_n 0, 1, 0, 0, 0), (.getfield 28, 3, 0, 10, 2), (.iload_n 3, 1, 0, 0, 0), (.iload 4, 2, 0, 0, 0)] 74 = true := by decide +kernel
theorem X_town_s78 : zseg (zown X_town) (zcode X_town) 78 [(.aload_n 0, 1, 0, 0, 0), (.getfield 28, 3, 0, 10, 2), (.iload_n 3, 1, 0, 0, 0)] 83 = true := by decide +kernel
theorem X_town_s87 : zseg (zown X_town) (zcode X_town) 87 [(.aload_n 0, 1, 0, 0, 0), (.getfield 28, 3, 0, 10, 2), (.iload_n 3, 1, 0, 0, 0), (.iload 4, 2, 0, 0, 0)] 94 = true := by decide +kernel
theorem X_town_d1 : decode (zcode X_town) 1 = .ok (.invokestatic 160, 3) := by decide +kernel
theorem X_town_d4 : decode (zcode X_town) 4 = .ok (.ifCond .eq 11, 3) := by decide +kernel
theorem X_town_d9 : decode (zcode X_town) 9 = .ok (.invokestatic 170, 3) := by decide +kernel
theorem X_town_d12 : decode (zcode X_town) 12 = .ok (.ifCond .ne 5, 3) := by decide +kernel
theorem X_town_d16 : decode (zcode X_town) 16 = .ok (.ireturn, 1) := by decide +kernel
theorem X_town_d29 : decode (zcode X_town) 29 = .ok (.tableswitch 58 0 2 #[27, 38, 49], 27) := by decide +kernel
theorem X_town_d63 : decode (zcode X_town) 63 = .ok (.invokevirtual 180, 3) := by decide +kernel
theorem X_town_d66 : decode (zcode X_town) 66 = .ok (.ireturn, 1) := by decide +kernel
theorem X_town_d74 : decode (zcode X_town) 74 = .ok (.invokevirtual 183, 3) := by decide +kernel
theorem X_town_d77 : decode (zcode X_town) 77 = .ok (.ireturn, 1) := by decide +kernel
theorem X_town_d83 : decode (zcode X_town) 83 = .ok (.invokevirtual 186, 3) := by decide +kernel
theorem X_town_d86 : decode (zcode X_town) 86 = .ok (.ireturn, 1) := by decide +kernel
theorem X_town_d94 : decode (zcode X_town) 94 = .ok (.invokevirtual 189, 3) := by decide +kernel
theorem X_town_d97 : decode (zcode X_town) 97 = .ok (.ireturn, 1) := by decide +kernel
theorem X_beats_s0 : zseg (zown X_beats) (zcode X_beats) 0 [(.iload_n 1, 1, 0, 0, 0)] 1 = true := by decide +kernel
theorem X_beats_s4 : zseg (zown X_beats) (zcode X_beats) 4 [(.iload_n 2, 1, 0, 0, 0)] 5 = true := by decide +kernel
theorem X_beats_s11 : zseg (zown X_beats) (zcode X_beats) 11 [(.iconst (-1), 1, (-1), 0, 0)] 12 = true := by decide +kernel
theorem X_beats_s13 : zseg (zown X_beats) (zcode X_beats) 13 [(.iload_n 1, 1, 0, 0, 0), (.bipush 10, 2, 10, 0, 0), (.idiv, 1, 0, 0, 0), (.istore_n 3, 1, 0, 0, 0), (.iload_n 1, 1, 0, 0, 0), (.bipush 10, 2, 10, 0, 0), (.irem, 1, 0, 0, 0), (.istore 4, 2, 0, 0, 0), (.iload_n 3, 1, 0, 0, 0), (.iload 4, 2, 0, 0, 0)] 27 = true := by decide +kernel
theorem X_beats_s30 : zseg (zown X_beats) (zcode X_beats) 30 [(.aload_n 0, 1, 0, 0, 0), (.getfield 10, 3, 0, 10, 0), (.iload_n 3, 1, 0, 0, 0)] 35 = true := by decide +kernel
theorem X_beats_s41 : zseg (zown X_beats) (zcode X_beats) 41 [(.aload_n 0, 1, 0, 0, 0), (.getfield 10, 3, 0, 10, 0), (.iload 4, 2, 0, 0, 0)] 47 = true := by decide +kernel
theorem X_beats_s53 : zseg (zown X_beats) (zcode X_beats) 53 [(.iconst (-1), 1, (-1), 0, 0)] 54 = true := by decide +kernel
theorem X_beats_s55 : zseg (zown X_beats) (zcode X_beats) 55 [(.aload_n 0, 1, 0, 0, 0), (.getfield 28, 3, 0, 10, 2), (.iload_n 2, 1, 0, 0, 0), (.bipush 100, 2, 100, 0, 0), (.idiv, 1, 0, 0, 0), (.iload_n 2, 1, 0, 0, 0), (.bipush 100, 2, 100, 0, 0), (.irem, 1, 0, 0, 0)] 67 = true := by decide +kernel
theorem X_beats_s70 : zseg (zown X_beats) (zcode X_beats) 70 [(.aload_n 0, 1, 0, 0, 0), (.getfield 28, 3, 0, 10, 2), (.iload_n 3, 1, 0, 0, 0), (.iload 4, 2, 0, 0, 0)] 77 = true := by decide +kernel
theorem X_beats_s80 : zseg (zown X_beats) (zcode X_beats) 80 [(.iload_n 3, 1, 0, 0, 0), (.iload 4, 2, 0, 0, 0)] 83 = true := by decide +kernel
theorem X_beats_d1 : decode (zcode X_beats) 1 = .ok (.ifCond .lt 10, 3) := by decide +kernel
theorem X_beats_d5 : decode (zcode X_beats) 5 = .ok (.invokestatic 160, 3) := by decide +kernel
theorem X_beats_d8 : decode (zcode X_beats) 8 = .ok (.ifCond .ne 5, 3) := by decide +kernel
theorem X_beats_d12 : decode (zcode X_beats) 12 = .ok (.ireturn, 1) := by decide +kernel
theorem X_beats_d27 : decode (zcode X_beats) 27 = .ok (.if_icmp .eq 26, 3) := by decide +kernel
theorem X_beats_d35 : decode (zcode X_beats) 35 = .ok (.invokevirtual 167, 3) := by decide +kernel
theorem X_beats_d38 : decode (zcode X_beats) 38 = .ok (.ifCond .eq 15, 3) := by decide +kernel
theorem X_beats_d47 : decode (zcode X_beats) 47 = .ok (.invokevirtual 167, 3) := by decide +kernel
theorem X_beats_d50 : decode (zcode X_beats) 50 = .ok (.ifCond .ne 5, 3) := by decide +kernel
theorem X_beats_d54 : decode (zcode X_beats) 54 = .ok (.ireturn, 1) := by decide +kernel
theorem X_beats_d67 : decode (zcode X_beats) 67 = .ok (.invokevirtual 192, 3) := by decide +kernel
theorem X_beats_d77 : decode (zcode X_beats) 77 = .ok (.invokestatic 196, 3) := by decide +kernel
theorem X_beats_d83 : decode (zcode X_beats) 83 = .ok (.invokestatic 201, 3) := by decide +kernel
theorem X_beats_d86 : decode (zcode X_beats) 86 = .ok (.invokevirtual 204, 3) := by decide +kernel
theorem X_beats_d89 : decode (zcode X_beats) 89 = .ok (.ireturn, 1) := by decide +kernel
theorem X_chime_s0 : zseg (zown X_chime) (zcode X_chime) 0 [(.iload_n 1, 1, 0, 0, 0)] 1 = true := by decide +kernel
theorem X_chime_s4 : zseg (zown X_chime) (zcode X_chime) 4 [(.iload_n 1, 1, 0, 0, 0), (.iconst 1, 1, 1, 0, 0), (.aload_n 0, 1, 0, 0, 0), (.getfield 10, 3, 0, 10, 0), (.getfield 74, 3, 0, 4, 7), (.ishl, 1, 0, 0, 0)] 14 = true := by decide +kernel
theorem X_chime_s17 : zseg (zown X_chime) (zcode X_chime) 17 [(.iload_n 2, 1, 0, 0, 0)] 18 = true := by decide +kernel
theorem X_chime_s24 : zseg (zown X_chime) (zcode X_chime) 24 [(.iload_n 3, 1, 0, 0, 0), (.iconst 1, 1, 1, 0, 0)] 26 = true := by decide +kernel
theorem X_chime_s32 : zseg (zown X_chime) (zcode X_chime) 32 [(.iconst (-1), 1, (-1), 0, 0)] 33 = true := by decide +kernel
theorem X_chime_s34 : zseg (zown X_chime) (zcode X_chime) 34 [(.aload_n 0, 1, 0, 0, 0), (.getfield 28, 3, 0, 10, 2), (.iload_n 2, 1, 0, 0, 0), (.bipush 100, 2, 100, 0, 0), (.idiv, 1, 0, 0, 0), (.iload_n 2, 1, 0, 0, 0), (.bipush 100, 2, 100, 0, 0), (.irem, 1, 0, 0, 0)] 46 = true := by decide +kernel
theorem X_chime_s49 : zseg (zown X_chime) (zcode X_chime) 49 [(.iload_n 3, 1, 0, 0, 0)] 50 = true := by decide +kernel
theorem X_chime_s53 : zseg (zown X_chime) (zcode X_chime) 53 [(.aload_n 0, 1, 0, 0, 0), (.getfield 28, 3, 0, 10, 2), (.iload_n 1, 1, 0, 0, 0)] 58 = true := by decide +kernel
theorem X_chime_s61 : zseg (zown X_chime) (zcode X_chime) 61 [(.goto 11, 3, 0, 0, 0)] 72 = true := by decide +kernel
theorem X_chime_s64 : zseg (zown X_chime) (zcode X_chime) 64 [(.aload_n 0, 1, 0, 0, 0), (.getfield 28, 3, 0, 10, 2), (.iload_n 1, 1, 0, 0, 0)] 69 = true := by decide +kernel
theorem X_chime_d1 : decode (zcode X_chime) 1 = .ok (.ifCond .lt 31, 3) := by decide +kernel
theorem X_chime_d14 : decode (zcode X_chime) 14 = .ok (.if_icmp .ge 18, 3) := by decide +kernel
theorem X_chime_d18 : decode (zcode X_chime) 18 = .ok (.invokestatic 160, 3) := by decide +kernel
theorem X_chime_d21 : decode (zcode X_chime) 21 = .ok (.ifCond .eq 11, 3) := by decide +kernel
theorem X_chime_d26 : decode (zcode X_chime) 26 = .ok (.invokestatic 170, 3) := by decide +kernel
theorem X_chime_d29 : decode (zcode X_chime) 29 = .ok (.ifCond .ne 5, 3) := by decide +kernel
theorem X_chime_d33 : decode (zcode X_chime) 33 = .ok (.ireturn, 1) := by decide +kernel
theorem X_chime_d46 : decode (zcode X_chime) 46 = .ok (.invokevirtual 192, 3) := by decide +kernel
theorem X_chime_d50 : decode (zcode X_chime) 50 = .ok (.ifCond .ne 14, 3) := by decide +kernel
theorem X_chime_d58 : decode (zcode X_chime) 58 = .ok (.invokevirtual 207, 3) := by decide +kernel
theorem X_chime_d72 : decode (zcode X_chime) 72 = .ok (.ireturn, 1) := by decide +kernel
theorem X_chime_d69 : decode (zcode X_chime) 69 = .ok (.invokevirtual 210, 3) := by decide +kernel
theorem X_days_s0 : zseg (zown X_days) (zcode X_days) 0 [(.aload_n 0, 1, 0, 0, 0), (.getfield 10, 3, 0, 10, 0), (.iload_n 1, 1, 0, 0, 0)] 5 = true := by decide +kernel
theorem X_days_s11 : zseg (zown X_days) (zcode X_days) 11 [(.iload_n 2, 1, 0, 0, 0)] 12 = true := by decide +kernel
theorem X_days_s18 : zseg (zown X_days) (zcode X_days) 18 [(.iload_n 3, 1, 0, 0, 0), (.sipush 999, 3, 999, 0, 0)] 22 = true := by decide +kernel
theorem X_days_s28 : zseg (zown X_days) (zcode X_days) 28 [(.iconst (-1), 1, (-1), 0, 0)] 29 = true := by decide +kernel
theorem X_days_s30 : zseg (zown X_days) (zcode X_days) 30 [(.iload_n 2, 1, 0, 0, 0), (.bipush 100, 2, 100, 0, 0), (.idiv, 1, 0, 0, 0), (.istore 4, 2, 0, 0, 0), (.iload_n 2, 1, 0, 0, 0), (.bipush 100, 2, 100, 0, 0), (.irem, 1, 0, 0, 0), (.istore 5, 2, 0, 0, 0), (.iload_n 3, 1, 0, 0, 0)] 43 = true := by decide +kernel
theorem X_days_s46 : zseg (zown X_days) (zcode X_days) 46 [(.aload_n 0, 1, 0, 0, 0), (.getfield 28, 3, 0, 10, 2), (.iload_n 1, 1, 0, 0, 0), (.iload 4, 2, 0, 0, 0), (.iload 5, 2, 0, 0, 0)] 55 = true := by decide +kernel
theorem X_days_s58 : zseg (zown X_days) (zcode X_days) 58 [(.goto 16, 3, 0, 0, 0)] 74 = true := by decide +kernel
theorem X_days_s61 : zseg (zown X_days) (zcode X_days) 61 [(.aload_n 0, 1, 0, 0, 0), (.getfield 28, 3, 0, 10, 2), (.iload_n 1, 1, 0, 0, 0), (.iload 4, 2, 0, 0, 0), (.iload 5, 2, 0, 0, 0), (.iload_n 3, 1, 0, 0, 0)] 71 = true := by decide +kernel
theorem X_days_d5 : decode (zcode X_days) 5 = .ok (.invokevirtual 167, 3) := by decide +kernel
theorem X_days_d8 : decode (zcode X_days) 8 = .ok (.ifCond .eq 20, 3) := by decide +kernel
theorem X_days_d12 : decode (zcode X_days) 12 = .ok (.invokestatic 160, 3) := by decide +kernel
theorem X_days_d15 : decode (zcode X_days) 15 = .ok (.ifCond .eq 13, 3) := by decide +kernel
theorem X_days_d22 : decode (zcode X_days) 22 = .ok (.invokestatic 170, 3) := by decide +kernel
theorem X_days_d25 : decode (zcode X_days) 25 = .ok (.ifCond .ne 5, 3) := by decide +kernel
theorem X_days_d29 : decode (zcode X_days) 29 = .ok (.ireturn, 1) := by decide +kernel
theorem X_days_d43 : decode (zcode X_days) 43 = .ok (.ifCond .ne 18, 3) := by decide +kernel
theorem X_days_d55 : decode (zcode X_days) 55 = .ok (.invokevirtual 213, 3) := by decide +kernel
theorem X_days_d74 : decode (zcode X_days) 74 = .ok (.ireturn, 1) := by decide +kernel
theorem X_days_d71 : decode (zcode X_days) 71 = .ok (.invokevirtual 216, 3) := by decide +kernel
theorem X_fault_s0 : zseg (zown X_fault) (zcode X_fault) 0 [(.iload_n 1, 1, 0, 0, 0), (.iconst (-1), 1, (-1), 0, 0)] 2 = true := by decide +kernel
theorem X_fault_s5 : zseg (zown X_fault) (zcode X_fault) 5 [(.iload_n 1, 1, 0, 0, 0), (.bipush 6, 2, 6, 0, 0)] 8 = true := by decide +kernel
theorem X_fault_s11 : zseg (zown X_fault) (zcode X_fault) 11 [(.iload_n 2, 1, 0, 0, 0)] 12 = true := by decide +kernel
theorem X_fault_s18 : zseg (zown X_fault) (zcode X_fault) 18 [(.iconst (-1), 1, (-1), 0, 0)] 19 = true := by decide +kernel
theorem X_fault_s20 : zseg (zown X_fault) (zcode X_fault) 20 [(.iload_n 2, 1, 0, 0, 0), (.bipush 100, 2, 100, 0, 0), (.idiv, 1, 0, 0, 0), (.istore_n 3, 1, 0, 0, 0), (.iload_n 2, 1, 0, 0, 0), (.bipush 100, 2, 100, 0, 0), (.irem, 1, 0, 0, 0), (.istore 4, 2, 0, 0, 0), (.iload_n 1, 1, 0, 0, 0)] 32 = true := by decide +kernel
theorem X_fault_s35 : zseg (zown X_fault) (zcode X_fault) 35 [(.aload_n 0, 1, 0, 0, 0), (.getfield 28, 3, 0, 10, 2), (.iload_n 3, 1, 0, 0, 0), (.iload 4, 2, 0, 0, 0)] 42 = true := by decide +kernel
theorem X_fault_s45 : zseg (zown X_fault) (zcode X_fault) 45 [(.goto 14, 3, 0, 0, 0)] 59 = true := by decide +kernel
theorem X_fault_s48 : zseg (zown X_fault) (zcode X_fault) 48 [(.aload_n 0, 1, 0, 0, 0), (.getfield 28, 3, 0, 10, 2), (.iload_n 1, 1, 0, 0, 0), (.iload_n 3, 1, 0, 0, 0), (.iload 4, 2, 0, 0, 0)] 56 = true := by decide +kernel
theorem X_fault_d2 : decode (zcode X_fault) 2 = .ok (.if_icmp .lt 16, 3) := by decide +kernel
theorem X_fault_d8 : decode (zcode X_fault) 8 = .ok (.if_icmp .ge 10, 3) := by decide +kernel
theorem X_fault_d12 : decode (zcode X_fault) 12 = .ok (.invokestatic 160, 3) := by decide +kernel
theorem X_fault_d15 : decode (zcode X_fault) 15 = .ok (.ifCond .ne 5, 3) := by decide +kernel
theorem X_fault_d19 : decode (zcode X_fault) 19 = .ok (.ireturn, 1) := by decide +kernel
theorem X_fault_d32 : decode (zcode X_fault) 32 = .ok (.ifCond .ge 16, 3) := by decide +kernel
theorem X_fault_d42 : decode (zcode X_fault) 42 = .ok (.invokevirtual 220, 3) := by decide +kernel
theorem X_fault_d59 : decode (zcode X_fault) 59 = .ok (.ireturn, 1) := by decide +kernel
theorem X_fault_d56 : decode (zcode X_fault) 56 = .ok (.invokevirtual 223, 3) := by decide +kernel
theorem X_win_s0 : zseg (zown X_win) (zcode X_win) 0 [(.iload_n 1, 1, 0, 0, 0)] 1 = true := by decide +kernel
theorem X_win_s7 : zseg (zown X_win) (zcode X_win) 7 [(.iload_n 2, 1, 0, 0, 0), (.iconst 1, 1, 1, 0, 0)] 9 = true := by decide +kernel
theorem X_win_s15 : zseg (zown X_win) (zcode X_win) 15 [(.iconst (-1), 1, (-1), 0, 0)] 16 = true := by decide +kernel
theorem X_win_s17 : zseg (zown X_win) (zcode X_win) 17 [(.aload_n 0, 1, 0, 0, 0), (.getfield 35, 3, 0, 10, 3), (.iload_n 1, 1, 0, 0, 0), (.bipush 100, 2, 100, 0, 0), (.idiv, 1, 0, 0, 0), (.iload_n 1, 1, 0, 0, 0), (.bipush 100, 2, 100, 0, 0), (.irem, 1, 0, 0, 0)] 29 = true := by decide +kernel
theorem X_win_s32 : zseg (zown X_win) (zcode X_win) 32 [(.istore_n 3, 1, 0, 0, 0), (.iload_n 3, 1, 0, 0, 0)] 34 = true := by decide +kernel
theorem X_win_s37 : zseg (zown X_win) (zcode X_win) 37 [(.bipush (-2), 2, (-2), 0, 0)] 39 = true := by decide +kernel
theorem X_win_s40 : zseg (zown X_win) (zcode X_win) 40 [(.iload_n 2, 1, 0, 0, 0)] 41 = true := by decide +kernel
theorem X_win_s44 : zseg (zown X_win) (zcode X_win) 44 [(.iload_n 3, 1, 0, 0, 0)] 45 = true := by decide +kernel
theorem X_win_s48 : zseg (zown X_win) (zcode X_win) 48 [(.goto 4, 3, 0, 0, 0)] 52 = true := by decide +kernel
theorem X_win_s51 : zseg (zown X_win) (zcode X_win) 51 [(.iload_n 3, 1, 0, 0, 0)] 52 = true := by decide +kernel
theorem X_win_d1 : decode (zcode X_win) 1 = .ok (.invokestatic 160, 3) := by decide +kernel
theorem X_win_d4 : decode (zcode X_win) 4 = .ok (.ifCond .eq 11, 3) := by decide +kernel
theorem X_win_d9 : decode (zcode X_win) 9 = .ok (.invokestatic 170, 3) := by decide +kernel
theorem X_win_d12 : decode (zcode X_win) 12 = .ok (.ifCond .ne 5, 3) := by decide +kernel
theorem X_win_d16 : decode (zcode X_win) 16 = .ok (.ireturn, 1) := by decide +kernel
theorem X_win_d29 : decode (zcode X_win) 29 = .ok (.invokevirtual 226, 3) := by decide +kernel
theorem X_win_d34 : decode (zcode X_win) 34 = .ok (.ifCond .ge 6, 3) := by decide +kernel
theorem X_win_d39 : decode (zcode X_win) 39 = .ok (.ireturn, 1) := by decide +kernel
theorem X_win_d41 : decode (zcode X_win) 41 = .ok (.ifCond .ne 10, 3) := by decide +kernel
theorem X_win_d45 : decode (zcode X_win) 45 = .ok (.invokestatic 229, 3) := by decide +kernel
theorem X_win_d52 : decode (zcode X_win) 52 = .ok (.ireturn, 1) := by decide +kernel
theorem X_silent_s0 : zseg (zown X_silent) (zcode X_silent) 0 [(.iload_n 1, 1, 0, 0, 0), (.bipush 23, 2, 23, 0, 0)] 3 = true := by decide +kernel
theorem X_silent_s9 : zseg (zown X_silent) (zcode X_silent) 9 [(.iload_n 2, 1, 0, 0, 0), (.bipush 99, 2, 99, 0, 0)] 12 = true := by decide +kernel
theorem X_silent_s18 : zseg (zown X_silent) (zcode X_silent) 18 [(.iconst (-1), 1, (-1), 0, 0)] 19 = true := by decide +kernel
theorem X_silent_s20 : zseg (zown X_silent) (zcode X_silent) 20 [(.aload_n 0, 1, 0, 0, 0), (.getfield 35, 3, 0, 10, 3), (.iload_n 1, 1, 0, 0, 0), (.iload_n 2, 1, 0, 0, 0)] 26 = true := by decide +kernel
theorem X_silent_d3 : decode (zcode X_silent) 3 = .ok (.invokestatic 170, 3) := by decide +kernel
theorem X_silent_d6 : decode (zcode X_silent) 6 = .ok (.ifCond .eq 12, 3) := by decide +kernel
theorem X_silent_d12 : decode (zcode X_silent) 12 = .ok (.invokestatic 170, 3) := by decide +kernel
theorem X_silent_d15 : decode (zcode X_silent) 15 = .ok (.ifCond .ne 5, 3) := by decide +kernel
theorem X_silent_d19 : decode (zcode X_silent) 19 = .ok (.ireturn, 1) := by decide +kernel
theorem X_silent_d26 : decode (zcode X_silent) 26 = .ok (.invokevirtual 234, 3) := by decide +kernel
theorem X_silent_d29 : decode (zcode X_silent) 29 = .ok (.ireturn, 1) := by decide +kernel
theorem X_heard_s0 : zseg (zown X_heard) (zcode X_heard) 0 [(.aload_n 0, 1, 0, 0, 0), (.getfield 10, 3, 0, 10, 0), (.iload_n 1, 1, 0, 0, 0)] 5 = true := by decide +kernel
theorem X_heard_s11 : zseg (zown X_heard) (zcode X_heard) 11 [(.iload_n 3, 1, 0, 0, 0)] 12 = true := by decide +kernel
theorem X_heard_s18 : zseg (zown X_heard) (zcode X_heard) 18 [(.iload 4, 2, 0, 0, 0), (.iconst 3, 1, 3, 0, 0)] 21 = true := by decide +kernel
theorem X_heard_s27 : zseg (zown X_heard) (zcode X_heard) 27 [(.iconst (-1), 1, (-1), 0, 0)] 28 = true := by decide +kernel
theorem X_heard_s29 : zseg (zown X_heard) (zcode X_heard) 29 [(.aload_n 0, 1, 0, 0, 0), (.getfield 35, 3, 0, 10, 3), (.iload_n 1, 1, 0, 0, 0), (.iload_n 3, 1, 0, 0, 0), (.bipush 100, 2, 100, 0, 0), (.idiv, 1, 0, 0, 0), (.iload_n 3, 1, 0, 0, 0), (.bipush 100, 2, 100, 0, 0), (.irem, 1, 0, 0, 0), (.iconst 1, 1, 1, 0, 0), (.iload_n 2, 1, 0, 0, 0)] 44 = true := by decide +kernel
theorem X_heard_s47 : zseg (zown X_heard) (zcode X_heard) 47 [(.aload_n 0, 1, 0, 0, 0), (.getfield 35, 3, 0, 10, 3), (.iload_n 1, 1, 0, 0, 0), (.iload 4, 2, 0, 0, 0)] 54 = true := by decide +kernel
theorem X_heard_d5 : decode (zcode X_heard) 5 = .ok (.invokevirtual 167, 3) := by decide +kernel
theorem X_heard_d8 : decode (zcode X_heard) 8 = .ok (.ifCond .eq 19, 3) := by decide +kernel
theorem X_heard_d12 : decode (zcode X_heard) 12 = .ok (.invokestatic 237, 3) := by decide +kernel
theorem X_heard_d15 : decode (zcode X_heard) 15 = .ok (.ifCond .eq 12, 3) := by decide +kernel
theorem X_heard_d21 : decode (zcode X_heard) 21 = .ok (.invokestatic 170, 3) := by decide +kernel
theorem X_heard_d24 : decode (zcode X_heard) 24 = .ok (.ifCond .ne 5, 3) := by decide +kernel
theorem X_heard_d28 : decode (zcode X_heard) 28 = .ok (.ireturn, 1) := by decide +kernel
theorem X_heard_d44 : decode (zcode X_heard) 44 = .ok (.invokevirtual 240, 3) := by decide +kernel
theorem X_heard_d54 : decode (zcode X_heard) 54 = .ok (.invokevirtual 244, 3) := by decide +kernel
theorem X_heard_d57 : decode (zcode X_heard) 57 = .ok (.ireturn, 1) := by decide +kernel
theorem X_strike_s0 : zseg (zown X_strike) (zcode X_strike) 0 [(.aload_n 0, 1, 0, 0, 0), (.iload_n 1, 1, 0, 0, 0)] 2 = true := by decide +kernel
theorem X_strike_s5 : zseg (zown X_strike) (zcode X_strike) 5 [(.astore 4, 2, 0, 0, 0), (.aload 4, 2, 0, 0, 0)] 9 = true := by decide +kernel
theorem X_strike_s12 : zseg (zown X_strike) (zcode X_strike) 12 [(.iload_n 2, 1, 0, 0, 0)] 13 = true := by decide +kernel
theorem X_strike_s19 : zseg (zown X_strike) (zcode X_strike) 19 [(.iload_n 3, 1, 0, 0, 0), (.iconst 2, 1, 2, 0, 0)] 21 = true := by decide +kernel
theorem X_strike_s27 : zseg (zown X_strike) (zcode X_strike) 27 [(.iconst (-1), 1, (-1), 0, 0)] 28 = true := by decide +kernel
theorem X_strike_s29 : zseg (zown X_strike) (zcode X_strike) 29 [(.aload 4, 2, 0, 0, 0), (.iconst 1, 1, 1, 0, 0)] 32 = true := by decide +kernel
theorem X_strike_s35 : zseg (zown X_strike) (zcode X_strike) 35 [(.istore 5, 2, 0, 0, 0), (.iload 5, 2, 0, 0, 0)] 39 = true := by decide +kernel
theorem X_strike_s42 : zseg (zown X_strike) (zcode X_strike) 42 [(.iload 5, 2, 0, 0, 0), (.goto 21, 3, 0, 0, 0)] 65 = true := by decide +kernel
theorem X_strike_s47 : zseg (zown X_strike) (zcode X_strike) 47 [(.aload_n 0, 1, 0, 0, 0), (.getfield 35, 3, 0, 10, 3), (.aload 4, 2, 0, 0, 0), (.iload_n 2, 1, 0, 0, 0), (.bipush 100, 2, 100, 0, 0), (.idiv, 1, 0, 0, 0), (.iload_n 2, 1, 0, 0, 0), (.bipush 100, 2, 100, 0, 0), (.irem, 1, 0, 0, 0), (.iload_n 3, 1, 0, 0, 0)] 62 = true := by decide +kernel
theorem X_strike_d2 : decode (zcode X_strike) 2 = .ok (.invokevirtual 93, 3) := by decide +kernel
theorem X_strike_d9 : decode (zcode X_strike) 9 = .ok (.ifnull 18, 3) := by decide +kernel
theorem X_strike_d13 : decode (zcode X_strike) 13 = .ok (.invokestatic 237, 3) := by decide +kernel
theorem X_strike_d16 : decode (zcode X_strike) 16 = .ok (.ifCond .eq 11, 3) := by decide +kernel
theorem X_strike_d21 : decode (zcode X_strike) 21 = .ok (.invokestatic 170, 3) := by decide +kernel
theorem X_strike_d24 : decode (zcode X_strike) 24 = .ok (.ifCond .ne 5, 3) := by decide +kernel
theorem X_strike_d28 : decode (zcode X_strike) 28 = .ok (.ireturn, 1) := by decide +kernel
theorem X_strike_d32 : decode (zcode X_strike) 32 = .ok (.invokevirtual 247, 3) := by decide +kernel
theorem X_strike_d39 : decode (zcode X_strike) 39 = .ok (.ifCond .eq 8, 3) := by decide +kernel
theorem X_strike_d65 : decode (zcode X_strike) 65 = .ok (.ireturn, 1) := by decide +kernel
theorem X_strike_d62 : decode (zcode X_strike) 62 = .ok (.invokevirtual 250, 3) := by decide +kernel
theorem X_judge_s0 : zseg (zown X_judge) (zcode X_judge) 0 [(.aload_n 0, 1, 0, 0, 0), (.iload_n 1, 1, 0, 0, 0)] 2 = true := by decide +kernel
theorem X_judge_s5 : zseg (zown X_judge) (zcode X_judge) 5 [(.astore 4, 2, 0, 0, 0), (.aload 4, 2, 0, 0, 0)] 9 = true := by decide +kernel
theorem X_judge_s12 : zseg (zown X_judge) (zcode X_judge) 12 [(.aload_n 0, 1, 0, 0, 0), (.getfield 10, 3, 0, 10, 0), (.iload_n 2, 1, 0, 0, 0)] 17 = true := by decide +kernel
theorem X_judge_s23 : zseg (zown X_judge) (zcode X_judge) 23 [(.iload_n 3, 1, 0, 0, 0)] 24 = true := by decide +kernel
theorem X_judge_s30 : zseg (zown X_judge) (zcode X_judge) 30 [(.iconst (-1), 1, (-1), 0, 0)] 31 = true := by decide +kernel
theorem X_judge_s32 : zseg (zown X_judge) (zcode X_judge) 32 [(.aload 4, 2, 0, 0, 0), (.iconst 1, 1, 1, 0, 0)] 35 = true := by decide +kernel
theorem X_judge_s38 : zseg (zown X_judge) (zcode X_judge) 38 [(.istore 5, 2, 0, 0, 0), (.iload 5, 2, 0, 0, 0)] 42 = true := by decide +kernel
theorem X_judge_s45 : zseg (zown X_judge) (zcode X_judge) 45 [(.iload 5, 2, 0, 0, 0), (.goto 21, 3, 0, 0, 0)] 68 = true := by decide +kernel
theorem X_judge_s50 : zseg (zown X_judge) (zcode X_judge) 50 [(.aload_n 0, 1, 0, 0, 0), (.getfield 35, 3, 0, 10, 3), (.aload 4, 2, 0, 0, 0), (.iload_n 2, 1, 0, 0, 0), (.iload_n 3, 1, 0, 0, 0), (.bipush 100, 2, 100, 0, 0), (.idiv, 1, 0, 0, 0), (.iload_n 3, 1, 0, 0, 0), (.bipush 100, 2, 100, 0, 0), (.irem, 1, 0, 0, 0)] 65 = true := by decide +kernel
theorem X_judge_d2 : decode (zcode X_judge) 2 = .ok (.invokevirtual 93, 3) := by decide +kernel
theorem X_judge_d9 : decode (zcode X_judge) 9 = .ok (.ifnull 21, 3) := by decide +kernel
theorem X_judge_d17 : decode (zcode X_judge) 17 = .ok (.invokevirtual 167, 3) := by decide +kernel
theorem X_judge_d20 : decode (zcode X_judge) 20 = .ok (.ifCond .eq 10, 3) := by decide +kernel
theorem X_judge_d24 : decode (zcode X_judge) 24 = .ok (.invokestatic 160, 3) := by decide +kernel
theorem X_judge_d27 : decode (zcode X_judge) 27 = .ok (.ifCond .ne 5, 3) := by decide +kernel
theorem X_judge_d31 : decode (zcode X_judge) 31 = .ok (.ireturn, 1) := by decide +kernel
theorem X_judge_d35 : decode (zcode X_judge) 35 = .ok (.invokevirtual 247, 3) := by decide +kernel
theorem X_judge_d42 : decode (zcode X_judge) 42 = .ok (.ifCond .eq 8, 3) := by decide +kernel
theorem X_judge_d68 : decode (zcode X_judge) 68 = .ok (.ireturn, 1) := by decide +kernel
theorem X_judge_d65 : decode (zcode X_judge) 65 = .ok (.invokevirtual 254, 3) := by decide +kernel
theorem X_broke_s0 : zseg (zown X_broke) (zcode X_broke) 0 [(.aload_n 0, 1, 0, 0, 0), (.iload_n 1, 1, 0, 0, 0)] 2 = true := by decide +kernel
theorem X_broke_s5 : zseg (zown X_broke) (zcode X_broke) 5 [(.astore 5, 2, 0, 0, 0), (.aload 5, 2, 0, 0, 0)] 9 = true := by decide +kernel
theorem X_broke_s12 : zseg (zown X_broke) (zcode X_broke) 12 [(.aload_n 0, 1, 0, 0, 0), (.getfield 10, 3, 0, 10, 0), (.iload_n 2, 1, 0, 0, 0)] 17 = true := by decide +kernel
theorem X_broke_s23 : zseg (zown X_broke) (zcode X_broke) 23 [(.iload_n 3, 1, 0, 0, 0)] 24 = true := by decide +kernel
theorem X_broke_s30 : zseg (zown X_broke) (zcode X_broke) 30 [(.iload 4, 2, 0, 0, 0), (.iconst 1, 1, 1, 0, 0)] 33 = true := by decide +kernel
theorem X_broke_s39 : zseg (zown X_broke) (zcode X_broke) 39 [(.iconst (-1), 1, (-1), 0, 0)] 40 = true := by decide +kernel
theorem X_broke_s41 : zseg (zown X_broke) (zcode X_broke) 41 [(.aload 5, 2, 0, 0, 0), (.iconst 1, 1, 1, 0, 0)] 44 = true := by decide +kernel
theorem X_broke_s47 : zseg (zown X_broke) (zcode X_broke) 47 [(.istore 6, 2, 0, 0, 0), (.iload 6, 2, 0, 0, 0)] 51 = true := by decide +kernel
theorem X_broke_s54 : zseg (zown X_broke) (zcode X_broke) 54 [(.iload 6, 2, 0, 0, 0), (.goto 23, 3, 0, 0, 0)] 79 = true := by decide +kernel
theorem X_broke_s59 : zseg (zown X_broke) (zcode X_broke) 59 [(.aload_n 0, 1, 0, 0, 0), (.getfield 35, 3, 0, 10, 3), (.aload 5, 2, 0, 0, 0), (.iload_n 2, 1, 0, 0, 0), (.iload_n 3, 1, 0, 0, 0), (.bipush 100, 2, 100, 0, 0), (.idiv, 1, 0, 0, 0), (.iload_n 3, 1, 0, 0, 0), (.bipush 100, 2, 100, 0, 0), (.irem, 1, 0, 0, 0), (.iload 4, 2, 0, 0, 0)] 76 = true := by decide +kernel
theorem X_broke_d2 : decode (zcode X_broke) 2 = .ok (.invokevirtual 93, 3) := by decide +kernel
theorem X_broke_d9 : decode (zcode X_broke) 9 = .ok (.ifnull 30, 3) := by decide +kernel
theorem X_broke_d17 : decode (zcode X_broke) 17 = .ok (.invokevirtual 167, 3) := by decide +kernel
theorem X_broke_d20 : decode (zcode X_broke) 20 = .ok (.ifCond .eq 19, 3) := by decide +kernel
theorem X_broke_d24 : decode (zcode X_broke) 24 = .ok (.invokestatic 160, 3) := by decide +kernel
theorem X_broke_d27 : decode (zcode X_broke) 27 = .ok (.ifCond .eq 12, 3) := by decide +kernel
theorem X_broke_d33 : decode (zcode X_broke) 33 = .ok (.invokestatic 170, 3) := by decide +kernel
theorem X_broke_d36 : decode (zcode X_broke) 36 = .ok (.ifCond .ne 5, 3) := by decide +kernel
theorem X_broke_d40 : decode (zcode X_broke) 40 = .ok (.ireturn, 1) := by decide +kernel
theorem X_broke_d44 : decode (zcode X_broke) 44 = .ok (.invokevirtual 247, 3) := by decide +kernel
theorem X_broke_d51 : decode (zcode X_broke) 51 = .ok (.ifCond .eq 8, 3) := by decide +kernel
theorem X_broke_d79 : decode (zcode X_broke) 79 = .ok (.ireturn, 1) := by decide +kernel
theorem X_broke_d76 : decode (zcode X_broke) 76 = .ok (.invokevirtual 257, 3) := by decide +kernel
theorem X_cast_s0 : zseg (zown X_cast) (zcode X_cast) 0 [(.aload_n 0, 1, 0, 0, 0), (.getfield 10, 3, 0, 10, 0), (.iload_n 1, 1, 0, 0, 0)] 5 = true := by decide +kernel
theorem X_cast_s11 : zseg (zown X_cast) (zcode X_cast) 11 [(.iload_n 2, 1, 0, 0, 0)] 12 = true := by decide +kernel
theorem X_cast_s15 : zseg (zown X_cast) (zcode X_cast) 15 [(.iload_n 2, 1, 0, 0, 0), (.bipush 100, 2, 100, 0, 0), (.idiv, 1, 0, 0, 0), (.bipush 99, 2, 99, 0, 0)] 21 = true := by decide +kernel
theorem X_cast_s24 : zseg (zown X_cast) (zcode X_cast) 24 [(.iload_n 2, 1, 0, 0, 0), (.bipush 100, 2, 100, 0, 0), (.irem, 1, 0, 0, 0), (.bipush 23, 2, 23, 0, 0)] 30 = true := by decide +kernel
theorem X_cast_s33 : zseg (zown X_cast) (zcode X_cast) 33 [(.iload_n 3, 1, 0, 0, 0), (.iconst 1, 1, 1, 0, 0)] 35 = true := by decide +kernel
theorem X_cast_s41 : zseg (zown X_cast) (zcode X_cast) 41 [(.iconst (-1), 1, (-1), 0, 0)] 42 = true := by decide +kernel
theorem X_cast_s43 : zseg (zown X_cast) (zcode X_cast) 43 [(.aload_n 0, 1, 0, 0, 0), (.getfield 42, 3, 0, 10, 4), (.iload_n 1, 1, 0, 0, 0), (.iload_n 2, 1, 0, 0, 0), (.bipush 100, 2, 100, 0, 0), (.idiv, 1, 0, 0, 0), (.iload_n 2, 1, 0, 0, 0), (.bipush 100, 2, 100, 0, 0), (.irem, 1, 0, 0, 0), (.iload_n 3, 1, 0, 0, 0)] 57 = true := by decide +kernel
theorem X_cast_d5 : decode (zcode X_cast) 5 = .ok (.invokevirtual 128, 3) := by decide +kernel
theorem X_cast_d8 : decode (zcode X_cast) 8 = .ok (.ifCond .eq 33, 3) := by decide +kernel
theorem X_cast_d12 : decode (zcode X_cast) 12 = .ok (.ifCond .lt 29, 3) := by decide +kernel
theorem X_cast_d21 : decode (zcode X_cast) 21 = .ok (.if_icmp .gt 20, 3) := by decide +kernel
theorem X_cast_d30 : decode (zcode X_cast) 30 = .ok (.if_icmp .gt 11, 3) := by decide +kernel
theorem X_cast_d35 : decode (zcode X_cast) 35 = .ok (.invokestatic 170, 3) := by decide +kernel
theorem X_cast_d38 : decode (zcode X_cast) 38 = .ok (.ifCond .ne 5, 3) := by decide +kernel
theorem X_cast_d42 : decode (zcode X_cast) 42 = .ok (.ireturn, 1) := by decide +kernel
theorem X_cast_d57 : decode (zcode X_cast) 57 = .ok (.invokevirtual 261, 3) := by decide +kernel
theorem X_cast_d60 : decode (zcode X_cast) 60 = .ok (.ireturn, 1) := by decide +kernel
theorem X_melt_s0 : zseg (zown X_melt) (zcode X_melt) 0 [(.aload_n 0, 1, 0, 0, 0), (.getfield 10, 3, 0, 10, 0), (.iload_n 1, 1, 0, 0, 0)] 5 = true := by decide +kernel
theorem X_melt_s11 : zseg (zown X_melt) (zcode X_melt) 11 [(.iload_n 2, 1, 0, 0, 0)] 12 = true := by decide +kernel
theorem X_melt_s18 : zseg (zown X_melt) (zcode X_melt) 18 [(.iload_n 3, 1, 0, 0, 0), (.iconst (-1), 1, (-1), 0, 0)] 20 = true := by decide +kernel
theorem X_melt_s23 : zseg (zown X_melt) (zcode X_melt) 23 [(.aload_n 0, 1, 0, 0, 0), (.getfield 10, 3, 0, 10, 0), (.iload_n 3, 1, 0, 0, 0)] 28 = true := by decide +kernel
theorem X_melt_s34 : zseg (zown X_melt) (zcode X_melt) 34 [(.iconst (-1), 1, (-1), 0, 0)] 35 = true := by decide +kernel
theorem X_melt_s36 : zseg (zown X_melt) (zcode X_melt) 36 [(.aload_n 0, 1, 0, 0, 0), (.getfield 10, 3, 0, 10, 0), (.iload_n 1, 1, 0, 0, 0)] 41 = true := by decide +kernel
theorem X_melt_s47 : zseg (zown X_melt) (zcode X_melt) 47 [(.iconst 5, 1, 5, 0, 0)] 48 = true := by decide +kernel
theorem X_melt_s51 : zseg (zown X_melt) (zcode X_melt) 51 [(.bipush (-5), 2, (-5), 0, 0)] 53 = true := by decide +kernel
theorem X_melt_s54 : zseg (zown X_melt) (zcode X_melt) 54 [(.aload_n 0, 1, 0, 0, 0), (.getfield 10, 3, 0, 10, 0), (.getfield 74, 3, 0, 4, 7), (.iconst 2, 1, 2, 0, 0)] 62 = true := by decide +kernel
theorem X_melt_s65 : zseg (zown X_melt) (zcode X_melt) 65 [(.iload_n 3, 1, 0, 0, 0)] 66 = true := by decide +kernel
theorem X_melt_s69 : zseg (zown X_melt) (zcode X_melt) 69 [(.aload_n 0, 1, 0, 0, 0), (.getfield 10, 3, 0, 10, 0), (.getfield 267, 3, 0, 4, 2), (.iload_n 3, 1, 0, 0, 0), (.iaload, 1, 0, 0, 0), (.iload_n 1, 1, 0, 0, 0)] 79 = true := by decide +kernel
theorem X_melt_s82 : zseg (zown X_melt) (zcode X_melt) 82 [(.bipush (-2), 2, (-2), 0, 0)] 84 = true := by decide +kernel
theorem X_melt_s85 : zseg (zown X_melt) (zcode X_melt) 85 [(.aload_n 0, 1, 0, 0, 0), (.getfield 42, 3, 0, 10, 4), (.iload_n 1, 1, 0, 0, 0), (.iload_n 2, 1, 0, 0, 0), (.bipush 100, 2, 100, 0, 0), (.idiv, 1, 0, 0, 0), (.iload_n 2, 1, 0, 0, 0), (.bipush 100, 2, 100, 0, 0), (.irem, 1, 0, 0, 0), (.iload_n 3, 1, 0, 0, 0)] 99 = true := by decide +kernel
theorem X_melt_d5 : decode (zcode X_melt) 5 = .ok (.invokevirtual 167, 3) := by decide +kernel
theorem X_melt_d8 : decode (zcode X_melt) 8 = .ok (.ifCond .eq 26, 3) := by decide +kernel
theorem X_melt_d12 : decode (zcode X_melt) 12 = .ok (.invokestatic 160, 3) := by decide +kernel
theorem X_melt_d15 : decode (zcode X_melt) 15 = .ok (.ifCond .eq 19, 3) := by decide +kernel
theorem X_melt_d20 : decode (zcode X_melt) 20 = .ok (.if_icmp .eq 16, 3) := by decide +kernel
theorem X_melt_d28 : decode (zcode X_melt) 28 = .ok (.invokevirtual 128, 3) := by decide +kernel
theorem X_melt_d31 : decode (zcode X_melt) 31 = .ok (.ifCond .ne 5, 3) := by decide +kernel
theorem X_melt_d35 : decode (zcode X_melt) 35 = .ok (.ireturn, 1) := by decide +kernel
theorem X_melt_d41 : decode (zcode X_melt) 41 = .ok (.invokevirtual 264, 3) := by decide +kernel
theorem X_melt_d44 : decode (zcode X_melt) 44 = .ok (.invokestatic 229, 3) := by decide +kernel
theorem X_melt_d48 : decode (zcode X_melt) 48 = .ok (.if_icmp .le 6, 3) := by decide +kernel
theorem X_melt_d53 : decode (zcode X_melt) 53 = .ok (.ireturn, 1) := by decide +kernel
theorem X_melt_d62 : decode (zcode X_melt) 62 = .ok (.if_icmp .lt 20, 3) := by decide +kernel
theorem X_melt_d66 : decode (zcode X_melt) 66 = .ok (.ifCond .lt 19, 3) := by decide +kernel
theorem X_melt_d79 : decode (zcode X_melt) 79 = .ok (.if_icmp .eq 6, 3) := by decide +kernel
theorem X_melt_d84 : decode (zcode X_melt) 84 = .ok (.ireturn, 1) := by decide +kernel
theorem X_melt_d99 : decode (zcode X_melt) 99 = .ok (.invokevirtual 270, 3) := by decide +kernel
theorem X_melt_d102 : decode (zcode X_melt) 102 = .ok (.ireturn, 1) := by decide +kernel
theorem X_pairs_s0 : zseg (zown X_pairs) (zcode X_pairs) 0 [(.iload_n 1, 1, 0, 0, 0)] 1 = true := by decide +kernel
theorem X_pairs_s7 : zseg (zown X_pairs) (zcode X_pairs) 7 [(.aload_n 0, 1, 0, 0, 0), (.getfield 42, 3, 0, 10, 4), (.iload_n 1, 1, 0, 0, 0), (.bipush 100, 2, 100, 0, 0), (.idiv, 1, 0, 0, 0), (.iload_n 1, 1, 0, 0, 0), (.bipush 100, 2, 100, 0, 0), (.irem, 1, 0, 0, 0)] 19 = true := by decide +kernel
theorem X_pairs_s22 : zseg (zown X_pairs) (zcode X_pairs) 22 [(.goto 4, 3, 0, 0, 0)] 26 = true := by decide +kernel
theorem X_pairs_s25 : zseg (zown X_pairs) (zcode X_pairs) 25 [(.iconst (-1), 1, (-1), 0, 0)] 26 = true := by decide +kernel
theorem X_pairs_d1 : decode (zcode X_pairs) 1 = .ok (.invokestatic 160, 3) := by decide +kernel
theorem X_pairs_d4 : decode (zcode X_pairs) 4 = .ok (.ifCond .eq 21, 3) := by decide +kernel
theorem X_pairs_d19 : decode (zcode X_pairs) 19 = .ok (.invokevirtual 273, 3) := by decide +kernel
theorem X_pairs_d26 : decode (zcode X_pairs) 26 = .ok (.ireturn, 1) := by decide +kernel
theorem X_drawn_s0 : zseg (zown X_drawn) (zcode X_drawn) 0 [(.iload_n 2, 1, 0, 0, 0)] 1 = true := by decide +kernel
theorem X_drawn_s4 : zseg (zown X_drawn) (zcode X_drawn) 4 [(.iload_n 3, 1, 0, 0, 0), (.sipush 998, 3, 998, 0, 0)] 8 = true := by decide +kernel
theorem X_drawn_s14 : zseg (zown X_drawn) (zcode X_drawn) 14 [(.iload 4, 2, 0, 0, 0), (.iconst 1, 1, 1, 0, 0)] 17 = true := by decide +kernel
theorem X_drawn_s23 : zseg (zown X_drawn) (zcode X_drawn) 23 [(.iconst (-1), 1, (-1), 0, 0)] 24 = true := by decide +kernel
theorem X_drawn_s25 : zseg (zown X_drawn) (zcode X_drawn) 25 [(.iload_n 2, 1, 0, 0, 0), (.bipush 100, 2, 100, 0, 0), (.idiv, 1, 0, 0, 0), (.istore 5, 2, 0, 0, 0), (.iload_n 2, 1, 0, 0, 0), (.bipush 100, 2, 100, 0, 0), (.irem, 1, 0, 0, 0), (.istore 6, 2, 0, 0, 0), (.iload 5, 2, 0, 0, 0), (.iconst 1, 1, 1, 0, 0)] 40 = true := by decide +kernel
theorem X_drawn_s43 : zseg (zown X_drawn) (zcode X_drawn) 43 [(.iload 5, 2, 0, 0, 0), (.bipush 20, 2, 20, 0, 0)] 47 = true := by decide +kernel
theorem X_drawn_s50 : zseg (zown X_drawn) (zcode X_drawn) 50 [(.iload 6, 2, 0, 0, 0), (.iconst 1, 1, 1, 0, 0)] 53 = true := by decide +kernel
theorem X_drawn_s56 : zseg (zown X_drawn) (zcode X_drawn) 56 [(.iload_n 3, 1, 0, 0, 0), (.iload 6, 2, 0, 0, 0), (.iadd, 1, 0, 0, 0), (.iconst 1, 1, 1, 0, 0), (.isub, 1, 0, 0, 0), (.sipush 998, 3, 998, 0, 0)] 65 = true := by decide +kernel
theorem X_drawn_s68 : zseg (zown X_drawn) (zcode X_drawn) 68 [(.iconst (-1), 1, (-1), 0, 0)] 69 = true := by decide +kernel
theorem X_drawn_s70 : zseg (zown X_drawn) (zcode X_drawn) 70 [(.aload_n 0, 1, 0, 0, 0), (.getfield 42, 3, 0, 10, 4), (.iload_n 1, 1, 0, 0, 0), (.iload 5, 2, 0, 0, 0), (.iload 6, 2, 0, 0, 0), (.iload_n 3, 1, 0, 0, 0), (.iload 4, 2, 0, 0, 0)] 82 = true := by decide +kernel
theorem X_drawn_d1 : decode (zcode X_drawn) 1 = .ok (.ifCond .lt 22, 3) := by decide +kernel
theorem X_drawn_d8 : decode (zcode X_drawn) 8 = .ok (.invokestatic 170, 3) := by decide +kernel
theorem X_drawn_d11 : decode (zcode X_drawn) 11 = .ok (.ifCond .eq 12, 3) := by decide +kernel
theorem X_drawn_d17 : decode (zcode X_drawn) 17 = .ok (.invokestatic 170, 3) := by decide +kernel
theorem X_drawn_d20 : decode (zcode X_drawn) 20 = .ok (.ifCond .ne 5, 3) := by decide +kernel
theorem X_drawn_d24 : decode (zcode X_drawn) 24 = .ok (.ireturn, 1) := by decide +kernel
theorem X_drawn_d40 : decode (zcode X_drawn) 40 = .ok (.if_icmp .lt 28, 3) := by decide +kernel
theorem X_drawn_d47 : decode (zcode X_drawn) 47 = .ok (.if_icmp .gt 21, 3) := by decide +kernel
theorem X_drawn_d53 : decode (zcode X_drawn) 53 = .ok (.if_icmp .lt 15, 3) := by decide +kernel
theorem X_drawn_d65 : decode (zcode X_drawn) 65 = .ok (.if_icmp .le 5, 3) := by decide +kernel
theorem X_drawn_d69 : decode (zcode X_drawn) 69 = .ok (.ireturn, 1) := by decide +kernel
theorem X_drawn_d82 : decode (zcode X_drawn) 82 = .ok (.invokevirtual 276, 3) := by decide +kernel
theorem X_drawn_d85 : decode (zcode X_drawn) 85 = .ok (.ireturn, 1) := by decide +kernel
theorem X_breaks_s0 : zseg (zown X_breaks) (zcode X_breaks) 0 [(.aload_n 0, 1, 0, 0, 0), (.getfield 10, 3, 0, 10, 0), (.iload_n 1, 1, 0, 0, 0)] 5 = true := by decide +kernel
theorem X_breaks_s11 : zseg (zown X_breaks) (zcode X_breaks) 11 [(.aload_n 0, 1, 0, 0, 0), (.getfield 49, 3, 0, 10, 5), (.iload_n 1, 1, 0, 0, 0)] 16 = true := by decide +kernel
theorem X_breaks_s19 : zseg (zown X_breaks) (zcode X_breaks) 19 [(.goto 4, 3, 0, 0, 0)] 23 = true := by decide +kernel
theorem X_breaks_s22 : zseg (zown X_breaks) (zcode X_breaks) 22 [(.iconst (-1), 1, (-1), 0, 0)] 23 = true := by decide +kernel
theorem X_breaks_d5 : decode (zcode X_breaks) 5 = .ok (.invokevirtual 128, 3) := by decide +kernel
theorem X_breaks_d8 : decode (zcode X_breaks) 8 = .ok (.ifCond .eq 14, 3) := by decide +kernel
theorem X_breaks_d16 : decode (zcode X_breaks) 16 = .ok (.invokevirtual 280, 3) := by decide +kernel
theorem X_breaks_d23 : decode (zcode X_breaks) 23 = .ok (.ireturn, 1) := by decide +kernel
theorem X_keeps_s0 : zseg (zown X_keeps) (zcode X_keeps) 0 [(.aload_n 0, 1, 0, 0, 0), (.getfield 10, 3, 0, 10, 0), (.iload_n 1, 1, 0, 0, 0)] 5 = true := by decide +kernel
theorem X_keeps_s11 : zseg (zown X_keeps) (zcode X_keeps) 11 [(.aload_n 0, 1, 0, 0, 0), (.getfield 49, 3, 0, 10, 5), (.iload_n 1, 1, 0, 0, 0)] 16 = true := by decide +kernel
theorem X_keeps_s19 : zseg (zown X_keeps) (zcode X_keeps) 19 [(.goto 4, 3, 0, 0, 0)] 23 = true := by decide +kernel
theorem X_keeps_s22 : zseg (zown X_keeps) (zcode X_keeps) 22 [(.iconst (-1), 1, (-1), 0, 0)] 23 = true := by decide +kernel
theorem X_keeps_d5 : decode (zcode X_keeps) 5 = .ok (.invokevirtual 128, 3) := by decide +kernel
theorem X_keeps_d8 : decode (zcode X_keeps) 8 = .ok (.ifCond .eq 14, 3) := by decide +kernel
theorem X_keeps_d16 : decode (zcode X_keeps) 16 = .ok (.invokevirtual 283, 3) := by decide +kernel
theorem X_keeps_d23 : decode (zcode X_keeps) 23 = .ok (.ireturn, 1) := by decide +kernel
theorem X_pass_s0 : zseg (zown X_pass) (zcode X_pass) 0 [(.iload_n 1, 1, 0, 0, 0), (.iconst 1, 1, 1, 0, 0)] 2 = true := by decide +kernel
theorem X_pass_s5 : zseg (zown X_pass) (zcode X_pass) 5 [(.iload_n 1, 1, 0, 0, 0), (.bipush 99, 2, 99, 0, 0)] 8 = true := by decide +kernel
theorem X_pass_s11 : zseg (zown X_pass) (zcode X_pass) 11 [(.iconst (-1), 1, (-1), 0, 0)] 12 = true := by decide +kernel
theorem X_pass_s13 : zseg (zown X_pass) (zcode X_pass) 13 [(.aload_n 0, 1, 0, 0, 0), (.getfield 49, 3, 0, 10, 5), (.getfield 131, 3, 0, 3, 2), (.iload_n 1, 1, 0, 0, 0), (.iadd, 1, 0, 0, 0), (.sipush 998, 3, 998, 0, 0)] 25 = true := by decide +kernel
theorem X_pass_s28 : zseg (zown X_pass) (zcode X_pass) 28 [(.bipush (-5), 2, (-5), 0, 0)] 30 = true := by decide +kernel
theorem X_pass_s31 : zseg (zown X_pass) (zcode X_pass) 31 [(.aload_n 0, 1, 0, 0, 0), (.getfield 49, 3, 0, 10, 5), (.dup, 1, 0, 0, 0), (.getfield 131, 3, 0, 3, 2), (.iload_n 1, 1, 0, 0, 0), (.iadd, 1, 0, 0, 0), (.putfield 131, 3, 0, 3, 2), (.aload_n 0, 1, 0, 0, 0), (.getfield 49, 3, 0, 10, 5), (.getfield 131, 3, 0, 3, 2)] 51 = true := by decide +kernel
theorem X_pass_d2 : decode (zcode X_pass) 2 = .ok (.if_icmp .lt 9, 3) := by decide +kernel
theorem X_pass_d8 : decode (zcode X_pass) 8 = .ok (.if_icmp .le 5, 3) := by decide +kernel
theorem X_pass_d12 : decode (zcode X_pass) 12 = .ok (.ireturn, 1) := by decide +kernel
theorem X_pass_d25 : decode (zcode X_pass) 25 = .ok (.if_icmp .le 6, 3) := by decide +kernel
theorem X_pass_d30 : decode (zcode X_pass) 30 = .ok (.ireturn, 1) := by decide +kernel
theorem X_pass_d51 : decode (zcode X_pass) 51 = .ok (.ireturn, 1) := by decide +kernel
theorem X_ring_s0 : zseg (zown X_ring) (zcode X_ring) 0 [(.aload_n 0, 1, 0, 0, 0), (.getfield 10, 3, 0, 10, 0), (.iload_n 1, 1, 0, 0, 0)] 5 = true := by decide +kernel
theorem X_ring_s11 : zseg (zown X_ring) (zcode X_ring) 11 [(.iload_n 2, 1, 0, 0, 0), (.bipush 23, 2, 23, 0, 0)] 14 = true := by decide +kernel
theorem X_ring_s20 : zseg (zown X_ring) (zcode X_ring) 20 [(.ldc 163, 2, (-2000000000), 0, 0)] 22 = true := by decide +kernel
theorem X_ring_s23 : zseg (zown X_ring) (zcode X_ring) 23 [(.aload_n 0, 1, 0, 0, 0), (.getfield 49, 3, 0, 10, 5), (.iload_n 1, 1, 0, 0, 0), (.iload_n 2, 1, 0, 0, 0)] 29 = true := by decide +kernel
theorem X_ring_d5 : decode (zcode X_ring) 5 = .ok (.invokevirtual 167, 3) := by decide +kernel
theorem X_ring_d8 : decode (zcode X_ring) 8 = .ok (.ifCond .eq 12, 3) := by decide +kernel
theorem X_ring_d14 : decode (zcode X_ring) 14 = .ok (.invokestatic 170, 3) := by decide +kernel
theorem X_ring_d17 : decode (zcode X_ring) 17 = .ok (.ifCond .ne 6, 3) := by decide +kernel
theorem X_ring_d22 : decode (zcode X_ring) 22 = .ok (.ireturn, 1) := by decide +kernel
theorem X_ring_d29 : decode (zcode X_ring) 29 = .ok (.invokevirtual 286, 3) := by decide +kernel
theorem X_ring_d32 : decode (zcode X_ring) 32 = .ok (.ireturn, 1) := by decide +kernel
theorem X_led_s0 : zseg (zown X_led) (zcode X_led) 0 [(.iload_n 1, 1, 0, 0, 0), (.iconst 4, 1, 4, 0, 0)] 2 = true := by decide +kernel
theorem X_led_s8 : zseg (zown X_led) (zcode X_led) 8 [(.iconst (-1), 1, (-1), 0, 0)] 9 = true := by decide +kernel
theorem X_led_s10 : zseg (zown X_led) (zcode X_led) 10 [(.iload_n 1, 1, 0, 0, 0), (.iconst 4, 1, 4, 0, 0)] 12 = true := by decide +kernel
theorem X_led_s15 : zseg (zown X_led) (zcode X_led) 15 [(.aload_n 0, 1, 0, 0, 0), (.getfield 49, 3, 0, 10, 5), (.getfield 289, 3, 0, 3, 1), (.iload_n 1, 1, 0, 0, 0), (.iaload, 1, 0, 0, 0), (.goto 10, 3, 0, 0, 0)] 34 = true := by decide +kernel
theorem X_led_s27 : zseg (zown X_led) (zcode X_led) 27 [(.aload_n 0, 1, 0, 0, 0), (.getfield 49, 3, 0, 10, 5), (.getfield 131, 3, 0, 3, 2)] 34 = true := by decide +kernel
theorem X_led_d2 : decode (zcode X_led) 2 = .ok (.invokestatic 170, 3) := by decide +kernel
theorem X_led_d5 : decode (zcode X_led) 5 = .ok (.ifCond .ne 5, 3) := by decide +kernel
theorem X_led_d9 : decode (zcode X_led) 9 = .ok (.ireturn, 1) := by decide +kernel
theorem X_led_d12 : decode (zcode X_led) 12 = .ok (.if_icmp .ge 15, 3) := by decide +kernel
theorem X_led_d34 : decode (zcode X_led) 34 = .ok (.ireturn, 1) := by decide +kernel
theorem X_image_s0 : zseg (zown X_image) (zcode X_image) 0 [(.aload_n 0, 1, 0, 0, 0), (.getfield 49, 3, 0, 10, 5)] 4 = true := by decide +kernel
theorem X_image_s7 : zseg (zown X_image) (zcode X_image) 7 [(.aload_n 0, 1, 0, 0, 0), (.getfield 49, 3, 0, 10, 5), (.getfield 131, 3, 0, 3, 2)] 14 = true := by decide +kernel
theorem X_image_d4 : decode (zcode X_image) 4 = .ok (.invokevirtual 292, 3) := by decide +kernel
theorem X_image_d14 : decode (zcode X_image) 14 = .ok (.ireturn, 1) := by decide +kernel
theorem X_back_s0 : zseg (zown X_back) (zcode X_back) 0 [(.aload_n 0, 1, 0, 0, 0), (.getfield 49, 3, 0, 10, 5), (.getfield 295, 3, 0, 3, 3)] 7 = true := by decide +kernel
theorem X_back_s10 : zseg (zown X_back) (zcode X_back) 10 [(.bipush (-5), 2, (-5), 0, 0)] 12 = true := by decide +kernel
theorem X_back_s13 : zseg (zown X_back) (zcode X_back) 13 [(.aload_n 0, 1, 0, 0, 0), (.getfield 49, 3, 0, 10, 5)] 17 = true := by decide +kernel
theorem X_back_s20 : zseg (zown X_back) (zcode X_back) 20 [(.aload_n 0, 1, 0, 0, 0), (.getfield 49, 3, 0, 10, 5), (.getfield 131, 3, 0, 3, 2)] 27 = true := by decide +kernel
theorem X_back_d7 : decode (zcode X_back) 7 = .ok (.ifCond .ne 6, 3) := by decide +kernel
theorem X_back_d12 : decode (zcode X_back) 12 = .ok (.ireturn, 1) := by decide +kernel
theorem X_back_d17 : decode (zcode X_back) 17 = .ok (.invokevirtual 299, 3) := by decide +kernel
theorem X_back_d27 : decode (zcode X_back) 27 = .ok (.ireturn, 1) := by decide +kernel
theorem X_undo_s0 : zseg (zown X_undo) (zcode X_undo) 0 [(.aload_n 0, 1, 0, 0, 0), (.getfield 56, 3, 0, 10, 6), (.getfield 302, 3, 0, 2, 4)] 7 = true := by decide +kernel
theorem X_undo_s10 : zseg (zown X_undo) (zcode X_undo) 10 [(.bipush (-5), 2, (-5), 0, 0)] 12 = true := by decide +kernel
theorem X_undo_s13 : zseg (zown X_undo) (zcode X_undo) 13 [(.aload_n 0, 1, 0, 0, 0), (.getfield 56, 3, 0, 10, 6), (.aload_n 0, 1, 0, 0, 0), (.getfield 10, 3, 0, 10, 0)] 21 = true := by decide +kernel
theorem X_undo_s24 : zseg (zown X_undo) (zcode X_undo) 24 [(.aload_n 0, 1, 0, 0, 0), (.getfield 56, 3, 0, 10, 6), (.getfield 302, 3, 0, 2, 4)] 31 = true := by decide +kernel
theorem X_undo_d7 : decode (zcode X_undo) 7 = .ok (.ifCond .ne 6, 3) := by decide +kernel
theorem X_undo_d12 : decode (zcode X_undo) 12 = .ok (.ireturn, 1) := by decide +kernel
theorem X_undo_d21 : decode (zcode X_undo) 21 = .ok (.invokevirtual 304, 3) := by decide +kernel
theorem X_undo_d31 : decode (zcode X_undo) 31 = .ok (.ireturn, 1) := by decide +kernel
theorem X_redo_s0 : zseg (zown X_redo) (zcode X_redo) 0 [(.aload_n 0, 1, 0, 0, 0), (.getfield 56, 3, 0, 10, 6), (.getfield 302, 3, 0, 2, 4), (.aload_n 0, 1, 0, 0, 0), (.getfield 56, 3, 0, 10, 6), (.getfield 307, 3, 0, 2, 5)] 14 = true := by decide +kernel
theorem X_redo_s17 : zseg (zown X_redo) (zcode X_redo) 17 [(.bipush (-5), 2, (-5), 0, 0)] 19 = true := by decide +kernel
theorem X_redo_s20 : zseg (zown X_redo) (zcode X_redo) 20 [(.aload_n 0, 1, 0, 0, 0), (.getfield 56, 3, 0, 10, 6), (.aload_n 0, 1, 0, 0, 0), (.getfield 10, 3, 0, 10, 0)] 28 = true := by decide +kernel
theorem X_redo_s31 : zseg (zown X_redo) (zcode X_redo) 31 [(.aload_n 0, 1, 0, 0, 0), (.getfield 56, 3, 0, 10, 6), (.getfield 307, 3, 0, 2, 5), (.aload_n 0, 1, 0, 0, 0), (.getfield 56, 3, 0, 10, 6), (.getfield 302, 3, 0, 2, 4), (.isub, 1, 0, 0, 0)] 46 = true := by decide +kernel
theorem X_redo_d14 : decode (zcode X_redo) 14 = .ok (.if_icmp .ne 6, 3) := by decide +kernel
theorem X_redo_d19 : decode (zcode X_redo) 19 = .ok (.ireturn, 1) := by decide +kernel
theorem X_redo_d28 : decode (zcode X_redo) 28 = .ok (.invokevirtual 310, 3) := by decide +kernel
theorem X_redo_d46 : decode (zcode X_redo) 46 = .ok (.ireturn, 1) := by decide +kernel
theorem X_body_s0 : zseg (zown X_body) (zcode X_body) 0 [(.iload_n 1, 1, 0, 0, 0), (.bipush 7, 2, 7, 0, 0)] 3 = true := by decide +kernel
theorem X_body_s9 : zseg (zown X_body) (zcode X_body) 9 [(.iconst (-1), 1, (-1), 0, 0)] 10 = true := by decide +kernel
theorem X_body_s11 : zseg (zown X_body) (zcode X_body) 11 [(.aload_n 0, 1, 0, 0, 0), (.getfield 63, 3, 0, 10, 7), (.getfield 313, 3, 0, 0, 2), (.bipush 50, 2, 50, 0, 0)] 20 = true := by decide +kernel
theorem X_body_s23 : zseg (zown X_body) (zcode X_body) 23 [(.aload_n 0, 1, 0, 0, 0), (.getfield 63, 3, 0, 10, 7), (.iload_n 1, 1, 0, 0, 0)] 28 = true := by decide +kernel
theorem X_body_s31 : zseg (zown X_body) (zcode X_body) 31 [(.goto 5, 3, 0, 0, 0)] 36 = true := by decide +kernel
theorem X_body_s34 : zseg (zown X_body) (zcode X_body) 34 [(.bipush (-3), 2, (-3), 0, 0)] 36 = true := by decide +kernel
theorem X_body_d3 : decode (zcode X_body) 3 = .ok (.invokestatic 170, 3) := by decide +kernel
theorem X_body_d6 : decode (zcode X_body) 6 = .ok (.ifCond .ne 5, 3) := by decide +kernel
theorem X_body_d10 : decode (zcode X_body) 10 = .ok (.ireturn, 1) := by decide +kernel
theorem X_body_d20 : decode (zcode X_body) 20 = .ok (.if_icmp .ge 14, 3) := by decide +kernel
theorem X_body_d28 : decode (zcode X_body) 28 = .ok (.invokevirtual 316, 3) := by decide +kernel
theorem X_body_d36 : decode (zcode X_body) 36 = .ok (.ireturn, 1) := by decide +kernel
theorem X_act_s0 : zseg (zown X_act) (zcode X_act) 0 [(.aload_n 0, 1, 0, 0, 0), (.getfield 63, 3, 0, 10, 7), (.iload_n 1, 1, 0, 0, 0), (.iload_n 2, 1, 0, 0, 0), (.iload_n 3, 1, 0, 0, 0)] 7 = true := by decide +kernel
theorem X_act_d7 : decode (zcode X_act) 7 = .ok (.invokevirtual 319, 3) := by decide +kernel
theorem X_act_d10 : decode (zcode X_act) 10 = .ok (.ireturn, 1) := by decide +kernel
theorem X_trace_s0 : zseg (zown X_trace) (zcode X_trace) 0 [(.iload_n 1, 1, 0, 0, 0)] 1 = true := by decide +kernel
theorem X_trace_s4 : zseg (zown X_trace) (zcode X_trace) 4 [(.iload_n 1, 1, 0, 0, 0), (.aload_n 0, 1, 0, 0, 0), (.getfield 63, 3, 0, 10, 7)] 9 = true := by decide +kernel
theorem X_trace_s15 : zseg (zown X_trace) (zcode X_trace) 15 [(.aload_n 0, 1, 0, 0, 0), (.getfield 63, 3, 0, 10, 7), (.getfield 326, 3, 0, 0, 1), (.iload_n 1, 1, 0, 0, 0), (.iaload, 1, 0, 0, 0), (.goto 4, 3, 0, 0, 0)] 28 = true := by decide +kernel
theorem X_trace_s27 : zseg (zown X_trace) (zcode X_trace) 27 [(.iconst (-1), 1, (-1), 0, 0)] 28 = true := by decide +kernel
theorem X_trace_d1 : decode (zcode X_trace) 1 = .ok (.ifCond .lt 26, 3) := by decide +kernel
theorem X_trace_d9 : decode (zcode X_trace) 9 = .ok (.invokevirtual 322, 3) := by decide +kernel
theorem X_trace_d12 : decode (zcode X_trace) 12 = .ok (.if_icmp .ge 15, 3) := by decide +kernel
theorem X_trace_d28 : decode (zcode X_trace) 28 = .ok (.ireturn, 1) := by decide +kernel
theorem X_keep_s0 : zseg (zown X_keep) (zcode X_keep) 0 [(.aload_n 0, 1, 0, 0, 0), (.iload_n 1, 1, 0, 0, 0)] 2 = true := by decide +kernel
theorem X_keep_s5 : zseg (zown X_keep) (zcode X_keep) 5 [(.astore_n 3, 1, 0, 0, 0), (.aload_n 3, 1, 0, 0, 0)] 7 = true := by decide +kernel
theorem X_keep_s10 : zseg (zown X_keep) (zcode X_keep) 10 [(.iload_n 2, 1, 0, 0, 0), (.iconst (-1), 1, (-1), 0, 0)] 12 = true := by decide +kernel
theorem X_keep_s15 : zseg (zown X_keep) (zcode X_keep) 15 [(.aload_n 0, 1, 0, 0, 0), (.getfield 63, 3, 0, 10, 7), (.iload_n 2, 1, 0, 0, 0)] 20 = true := by decide +kernel
theorem X_keep_s26 : zseg (zown X_keep) (zcode X_keep) 26 [(.iconst (-1), 1, (-1), 0, 0)] 27 = true := by decide +kernel
theorem X_keep_s28 : zseg (zown X_keep) (zcode X_keep) 28 [(.iload_n 2, 1, 0, 0, 0)] 29 = true := by decide +kernel
theorem X_keep_s32 : zseg (zown X_keep) (zcode X_keep) 32 [(.aload_n 3, 1, 0, 0, 0)] 33 = true := by decide +kernel
theorem X_keep_s36 : zseg (zown X_keep) (zcode X_keep) 36 [(.goto 8, 3, 0, 0, 0), (.iconst 1, 1, 1, 0, 0)] 45 = true := by decide +kernel
theorem X_keep_s39 : zseg (zown X_keep) (zcode X_keep) 39 [(.aload_n 3, 1, 0, 0, 0), (.iload_n 2, 1, 0, 0, 0)] 41 = true := by decide +kernel
theorem X_keep_s44 : zseg (zown X_keep) (zcode X_keep) 44 [(.iconst 1, 1, 1, 0, 0)] 45 = true := by decide +kernel
theorem X_keep_d2 : decode (zcode X_keep) 2 = .ok (.invokevirtual 93, 3) := by decide +kernel
theorem X_keep_d7 : decode (zcode X_keep) 7 = .ok (.ifnull 19, 3) := by decide +kernel
theorem X_keep_d12 : decode (zcode X_keep) 12 = .ok (.if_icmp .eq 16, 3) := by decide +kernel
theorem X_keep_d20 : decode (zcode X_keep) 20 = .ok (.invokevirtual 329, 3) := by decide +kernel
theorem X_keep_d23 : decode (zcode X_keep) 23 = .ok (.ifCond .ne 5, 3) := by decide +kernel
theorem X_keep_d27 : decode (zcode X_keep) 27 = .ok (.ireturn, 1) := by decide +kernel
theorem X_keep_d29 : decode (zcode X_keep) 29 = .ok (.ifCond .ge 10, 3) := by decide +kernel
theorem X_keep_d33 : decode (zcode X_keep) 33 = .ok (.invokevirtual 332, 3) := by decide +kernel
theorem X_keep_d45 : decode (zcode X_keep) 45 = .ok (.ireturn, 1) := by decide +kernel
theorem X_keep_d41 : decode (zcode X_keep) 41 = .ok (.invokevirtual 335, 3) := by decide +kernel
theorem X_row_s0 : zseg (zown X_row) (zcode X_row) 0 [(.aload_n 0, 1, 0, 0, 0), (.iload_n 1, 1, 0, 0, 0)] 2 = true := by decide +kernel
theorem X_row_s5 : zseg (zown X_row) (zcode X_row) 5 [(.astore 4, 2, 0, 0, 0), (.aload 4, 2, 0, 0, 0)] 9 = true := by decide +kernel
theorem X_row_s12 : zseg (zown X_row) (zcode X_row) 12 [(.iload_n 2, 1, 0, 0, 0), (.iconst 4, 1, 4, 0, 0)] 14 = true := by decide +kernel
theorem X_row_s20 : zseg (zown X_row) (zcode X_row) 20 [(.iload_n 3, 1, 0, 0, 0), (.bipush 60, 2, 60, 0, 0)] 23 = true := by decide +kernel
theorem X_row_s26 : zseg (zown X_row) (zcode X_row) 26 [(.iconst (-1), 1, (-1), 0, 0)] 27 = true := by decide +kernel
theorem X_row_s28 : zseg (zown X_row) (zcode X_row) 28 [(.iload_n 3, 1, 0, 0, 0)] 29 = true := by decide +kernel
theorem X_row_s32 : zseg (zown X_row) (zcode X_row) 32 [(.bipush (-14), 2, (-14), 0, 0)] 34 = true := by decide +kernel
theorem X_row_s35 : zseg (zown X_row) (zcode X_row) 35 [(.aload 4, 2, 0, 0, 0), (.iload_n 2, 1, 0, 0, 0), (.iload_n 3, 1, 0, 0, 0)] 39 = true := by decide +kernel
theorem X_row_s42 : zseg (zown X_row) (zcode X_row) 42 [(.iconst 1, 1, 1, 0, 0)] 43 = true := by decide +kernel
theorem X_row_d2 : decode (zcode X_row) 2 = .ok (.invokevirtual 93, 3) := by decide +kernel
theorem X_row_d9 : decode (zcode X_row) 9 = .ok (.ifnull 17, 3) := by decide +kernel
theorem X_row_d14 : decode (zcode X_row) 14 = .ok (.invokestatic 170, 3) := by decide +kernel
theorem X_row_d17 : decode (zcode X_row) 17 = .ok (.ifCond .eq 9, 3) := by decide +kernel
theorem X_row_d23 : decode (zcode X_row) 23 = .ok (.if_icmp .le 5, 3) := by decide +kernel
theorem X_row_d27 : decode (zcode X_row) 27 = .ok (.ireturn, 1) := by decide +kernel
theorem X_row_d29 : decode (zcode X_row) 29 = .ok (.ifCond .ge 6, 3) := by decide +kernel
theorem X_row_d34 : decode (zcode X_row) 34 = .ok (.ireturn, 1) := by decide +kernel
theorem X_row_d39 : decode (zcode X_row) 39 = .ok (.invokevirtual 339, 3) := by decide +kernel
theorem X_row_d43 : decode (zcode X_row) 43 = .ok (.ireturn, 1) := by decide +kernel
theorem X_put_s0 : zseg (zown X_put) (zcode X_put) 0 [(.aload_n 0, 1, 0, 0, 0), (.iload_n 1, 1, 0, 0, 0)] 2 = true := by decide +kernel
theorem X_put_s5 : zseg (zown X_put) (zcode X_put) 5 [(.astore 5, 2, 0, 0, 0), (.aload 5, 2, 0, 0, 0)] 9 = true := by decide +kernel
theorem X_put_s12 : zseg (zown X_put) (zcode X_put) 12 [(.iconst (-1), 1, (-1), 0, 0)] 13 = true := by decide +kernel
theorem X_put_s14 : zseg (zown X_put) (zcode X_put) 14 [(.aload 5, 2, 0, 0, 0), (.iload_n 2, 1, 0, 0, 0)] 17 = true := by decide +kernel
theorem X_put_s20 : zseg (zown X_put) (zcode X_put) 20 [(.istore 6, 2, 0, 0, 0), (.iload 6, 2, 0, 0, 0)] 24 = true := by decide +kernel
theorem X_put_s27 : zseg (zown X_put) (zcode X_put) 27 [(.iload 6, 2, 0, 0, 0)] 29 = true := by decide +kernel
theorem X_put_s30 : zseg (zown X_put) (zcode X_put) 30 [(.aload 5, 2, 0, 0, 0), (.getfield 345, 3, 0, 8, 0), (.iload_n 2, 1, 0, 0, 0), (.aload 5, 2, 0, 0, 0), (.lload_n 3, 1, 0, 0, 0)] 39 = true := by decide +kernel
theorem X_put_s42 : zseg (zown X_put) (zcode X_put) 42 [(.lastore, 1, 0, 0, 0), (.iconst 1, 1, 1, 0, 0)] 44 = true := by decide +kernel
theorem X_put_d2 : decode (zcode X_put) 2 = .ok (.invokevirtual 93, 3) := by decide +kernel
theorem X_put_d9 : decode (zcode X_put) 9 = .ok (.ifnonnull 5, 3) := by decide +kernel
theorem X_put_d13 : decode (zcode X_put) 13 = .ok (.ireturn, 1) := by decide +kernel
theorem X_put_d17 : decode (zcode X_put) 17 = .ok (.invokevirtual 342, 3) := by decide +kernel
theorem X_put_d24 : decode (zcode X_put) 24 = .ok (.ifCond .eq 6, 3) := by decide +kernel
theorem X_put_d29 : decode (zcode X_put) 29 = .ok (.ireturn, 1) := by decide +kernel
theorem X_put_d39 : decode (zcode X_put) 39 = .ok (.invokevirtual 349, 3) := by decide +kernel
theorem X_put_d44 : decode (zcode X_put) 44 = .ok (.ireturn, 1) := by decide +kernel
theorem X_element_s0 : zseg (zown X_element) (zcode X_element) 0 [(.aload_n 0, 1, 0, 0, 0), (.iload_n 1, 1, 0, 0, 0)] 2 = true := by decide +kernel
theorem X_element_s5 : zseg (zown X_element) (zcode X_element) 5 [(.astore_n 3, 1, 0, 0, 0), (.aload_n 3, 1, 0, 0, 0)] 7 = true := by decide +kernel
theorem X_element_s10 : zseg (zown X_element) (zcode X_element) 10 [(.aload_n 3, 1, 0, 0, 0), (.iload_n 2, 1, 0, 0, 0)] 12 = true := by decide +kernel
theorem X_element_s18 : zseg (zown X_element) (zcode X_element) 18 [(.aload_n 3, 1, 0, 0, 0), (.getfield 345, 3, 0, 8, 0), (.iload_n 2, 1, 0, 0, 0), (.laload, 1, 0, 0, 0), (.goto 6, 3, 0, 0, 0)] 30 = true := by decide +kernel
theorem X_element_s27 : zseg (zown X_element) (zcode X_element) 27 [(.ldc2_w 355, 3, 0, 0, 1)] 30 = true := by decide +kernel
theorem X_element_d2 : decode (zcode X_element) 2 = .ok (.invokevirtual 93, 3) := by decide +kernel
theorem X_element_d7 : decode (zcode X_element) 7 = .ok (.ifnull 20, 3) := by decide +kernel
theorem X_element_d12 : decode (zcode X_element) 12 = .ok (.invokevirtual 342, 3) := by decide +kernel
theorem X_element_d15 : decode (zcode X_element) 15 = .ok (.ifCond .ne 12, 3) := by decide +kernel
theorem X_element_d30 : decode (zcode X_element) 30 = .ok (.lreturn, 1) := by decide +kernel
theorem X_shift_s0 : zseg (zown X_shift) (zcode X_shift) 0 [(.aload_n 0, 1, 0, 0, 0), (.iload_n 1, 1, 0, 0, 0)] 2 = true := by decide +kernel
theorem X_shift_s5 : zseg (zown X_shift) (zcode X_shift) 5 [(.astore 6, 2, 0, 0, 0), (.aload_n 0, 1, 0, 0, 0), (.iload_n 3, 1, 0, 0, 0)] 9 = true := by decide +kernel
theorem X_shift_s12 : zseg (zown X_shift) (zcode X_shift) 12 [(.astore 7, 2, 0, 0, 0), (.aload 6, 2, 0, 0, 0)] 16 = true := by decide +kernel
theorem X_shift_s19 : zseg (zown X_shift) (zcode X_shift) 19 [(.aload 7, 2, 0, 0, 0)] 21 = true := by decide +kernel
theorem X_shift_s24 : zseg (zown X_shift) (zcode X_shift) 24 [(.iconst (-1), 1, (-1), 0, 0)] 25 = true := by decide +kernel
theorem X_shift_s26 : zseg (zown X_shift) (zcode X_shift) 26 [(.aload 6, 2, 0, 0, 0)] 28 = true := by decide +kernel
theorem X_shift_s34 : zseg (zown X_shift) (zcode X_shift) 34 [(.aload 7, 2, 0, 0, 0)] 36 = true := by decide +kernel
theorem X_shift_s42 : zseg (zown X_shift) (zcode X_shift) 42 [(.bipush (-11), 2, (-11), 0, 0)] 44 = true := by decide +kernel
theorem X_shift_s45 : zseg (zown X_shift) (zcode X_shift) 45 [(.aload 6, 2, 0, 0, 0)] 47 = true := by decide +kernel
theorem X_shift_s53 : zseg (zown X_shift) (zcode X_shift) 53 [(.aload 7, 2, 0, 0, 0), (.aload 6, 2, 0, 0, 0), (.getfield 360, 3, 0, 8, 2)] 60 = true := by decide +kernel
theorem X_shift_s66 : zseg (zown X_shift) (zcode X_shift) 66 [(.bipush (-12), 2, (-12), 0, 0)] 68 = true := by decide +kernel
theorem X_shift_s69 : zseg (zown X_shift) (zcode X_shift) 69 [(.aload 6, 2, 0, 0, 0), (.iload_n 2, 1, 0, 0, 0), (.iload 5, 2, 0, 0, 0)] 74 = true := by decide +kernel
theorem X_shift_s80 : zseg (zown X_shift) (zcode X_shift) 80 [(.aload 7, 2, 0, 0, 0), (.iload 4, 2, 0, 0, 0), (.iload 5, 2, 0, 0, 0)] 86 = true := by decide +kernel
theorem X_shift_s92 : zseg (zown X_shift) (zcode X_shift) 92 [(.bipush (-13), 2, (-13), 0, 0)] 94 = true := by decide +kernel
theorem X_shift_s95 : zseg (zown X_shift) (zcode X_shift) 95 [(.aload 6, 2, 0, 0, 0), (.getfield 345, 3, 0, 8, 0), (.iload_n 2, 1, 0, 0, 0), (.aload 7, 2, 0, 0, 0), (.getfield 345, 3, 0, 8, 0), (.iload 4, 2, 0, 0, 0), (.iload 5, 2, 0, 0, 0)] 110 = true := by decide +kernel
theorem X_shift_s113 : zseg (zown X_shift) (zcode X_shift) 113 [(.iload 5, 2, 0, 0, 0)] 115 = true := by decide +kernel
theorem X_shift_d2 : decode (zcode X_shift) 2 = .ok (.invokevirtual 93, 3) := by decide +kernel
theorem X_shift_d9 : decode (zcode X_shift) 9 = .ok (.invokevirtual 93, 3) := by decide +kernel
theorem X_shift_d16 : decode (zcode X_shift) 16 = .ok (.ifnull 8, 3) := by decide +kernel
theorem X_shift_d21 : decode (zcode X_shift) 21 = .ok (.ifnonnull 5, 3) := by decide +kernel
theorem X_shift_d25 : decode (zcode X_shift) 25 = .ok (.ireturn, 1) := by decide +kernel
theorem X_shift_d28 : decode (zcode X_shift) 28 = .ok (.invokevirtual 97, 3) := by decide +kernel
theorem X_shift_d31 : decode (zcode X_shift) 31 = .ok (.ifCond .ne 11, 3) := by decide +kernel
theorem X_shift_d36 : decode (zcode X_shift) 36 = .ok (.invokevirtual 97, 3) := by decide +kernel
theorem X_shift_d39 : decode (zcode X_shift) 39 = .ok (.ifCond .eq 6, 3) := by decide +kernel
theorem X_shift_d44 : decode (zcode X_shift) 44 = .ok (.ireturn, 1) := by decide +kernel
theorem X_shift_d47 : decode (zcode X_shift) 47 = .ok (.invokevirtual 357, 3) := by decide +kernel
theorem X_shift_d50 : decode (zcode X_shift) 50 = .ok (.ifCond .eq 16, 3) := by decide +kernel
theorem X_shift_d60 : decode (zcode X_shift) 60 = .ok (.invokevirtual 101, 3) := by decide +kernel
theorem X_shift_d63 : decode (zcode X_shift) 63 = .ok (.ifCond .ne 6, 3) := by decide +kernel
theorem X_shift_d68 : decode (zcode X_shift) 68 = .ok (.ireturn, 1) := by decide +kernel
theorem X_shift_d74 : decode (zcode X_shift) 74 = .ok (.invokevirtual 363, 3) := by decide +kernel
theorem X_shift_d77 : decode (zcode X_shift) 77 = .ok (.ifCond .eq 15, 3) := by decide +kernel
theorem X_shift_d86 : decode (zcode X_shift) 86 = .ok (.invokevirtual 363, 3) := by decide +kernel
theorem X_shift_d89 : decode (zcode X_shift) 89 = .ok (.ifCond .ne 6, 3) := by decide +kernel
theorem X_shift_d94 : decode (zcode X_shift) 94 = .ok (.ireturn, 1) := by decide +kernel
theorem X_shift_d110 : decode (zcode X_shift) 110 = .ok (.invokestatic 366, 3) := by decide +kernel
theorem X_shift_d115 : decode (zcode X_shift) 115 = .ok (.ireturn, 1) := by decide +kernel
theorem X_taken_s0 : zseg (zown X_taken) (zcode X_taken) 0 [(.aload_n 0, 1, 0, 0, 0), (.iload_n 1, 1, 0, 0, 0)] 2 = true := by decide +kernel
theorem X_taken_s5 : zseg (zown X_taken) (zcode X_taken) 5 [(.astore_n 3, 1, 0, 0, 0), (.aload_n 3, 1, 0, 0, 0)] 7 = true := by decide +kernel
theorem X_taken_s10 : zseg (zown X_taken) (zcode X_taken) 10 [(.iload_n 2, 1, 0, 0, 0), (.bipush 7, 2, 7, 0, 0)] 13 = true := by decide +kernel
theorem X_taken_s19 : zseg (zown X_taken) (zcode X_taken) 19 [(.iconst (-1), 1, (-1), 0, 0)] 20 = true := by decide +kernel
theorem X_taken_s21 : zseg (zown X_taken) (zcode X_taken) 21 [(.aload_n 3, 1, 0, 0, 0)] 22 = true := by decide +kernel
theorem X_taken_s28 : zseg (zown X_taken) (zcode X_taken) 28 [(.bipush (-11), 2, (-11), 0, 0)] 30 = true := by decide +kernel
theorem X_taken_s31 : zseg (zown X_taken) (zcode X_taken) 31 [(.aload_n 3, 1, 0, 0, 0)] 32 = true := by decide +kernel
theorem X_taken_s38 : zseg (zown X_taken) (zcode X_taken) 38 [(.aload_n 0, 1, 0, 0, 0), (.getfield 63, 3, 0, 10, 7), (.aload_n 3, 1, 0, 0, 0), (.getfield 372, 3, 0, 8, 1), (.iload_n 2, 1, 0, 0, 0)] 47 = true := by decide +kernel
theorem X_taken_s53 : zseg (zown X_taken) (zcode X_taken) 53 [(.bipush (-12), 2, (-12), 0, 0)] 55 = true := by decide +kernel
theorem X_taken_s56 : zseg (zown X_taken) (zcode X_taken) 56 [(.aload_n 0, 1, 0, 0, 0), (.getfield 63, 3, 0, 10, 7), (.getfield 378, 3, 0, 0, 0), (.aload_n 3, 1, 0, 0, 0), (.getfield 372, 3, 0, 8, 1), (.iaload, 1, 0, 0, 0)] 68 = true := by decide +kernel
theorem X_taken_d2 : decode (zcode X_taken) 2 = .ok (.invokevirtual 93, 3) := by decide +kernel
theorem X_taken_d7 : decode (zcode X_taken) 7 = .ok (.ifnull 12, 3) := by decide +kernel
theorem X_taken_d13 : decode (zcode X_taken) 13 = .ok (.invokestatic 170, 3) := by decide +kernel
theorem X_taken_d16 : decode (zcode X_taken) 16 = .ok (.ifCond .ne 5, 3) := by decide +kernel
theorem X_taken_d20 : decode (zcode X_taken) 20 = .ok (.ireturn, 1) := by decide +kernel
theorem X_taken_d22 : decode (zcode X_taken) 22 = .ok (.invokevirtual 97, 3) := by decide +kernel
theorem X_taken_d25 : decode (zcode X_taken) 25 = .ok (.ifCond .eq 6, 3) := by decide +kernel
theorem X_taken_d30 : decode (zcode X_taken) 30 = .ok (.ireturn, 1) := by decide +kernel
theorem X_taken_d32 : decode (zcode X_taken) 32 = .ok (.invokevirtual 357, 3) := by decide +kernel
theorem X_taken_d35 : decode (zcode X_taken) 35 = .ok (.ifCond .ne 18, 3) := by decide +kernel
theorem X_taken_d47 : decode (zcode X_taken) 47 = .ok (.invokevirtual 375, 3) := by decide +kernel
theorem X_taken_d50 : decode (zcode X_taken) 50 = .ok (.ifCond .ne 6, 3) := by decide +kernel
theorem X_taken_d55 : decode (zcode X_taken) 55 = .ok (.ireturn, 1) := by decide +kernel
theorem X_taken_d68 : decode (zcode X_taken) 68 = .ok (.ireturn, 1) := by decide +kernel
theorem X_count_s0 : zseg (zown X_count) (zcode X_count) 0 [(.iload_n 1, 1, 0, 0, 0)] 1 = true := by decide +kernel
theorem X_count_s40 : zseg (zown X_count) (zcode X_count) 40 [(.aload_n 0, 1, 0, 0, 0), (.getfield 10, 3, 0, 10, 0), (.getfield 74, 3, 0, 4, 7)] 47 = true := by decide +kernel
theorem X_count_s48 : zseg (zown X_count) (zcode X_count) 48 [(.aload_n 0, 1, 0, 0, 0), (.getfield 10, 3, 0, 10, 0), (.getfield 86, 3, 0, 4, 8)] 55 = true := by decide +kernel
theorem X_count_s56 : zseg (zown X_count) (zcode X_count) 56 [(.aload_n 0, 1, 0, 0, 0), (.getfield 19, 3, 0, 10, 1), (.getfield 143, 3, 0, 7, 1)] 63 = true := by decide +kernel
theorem X_count_s64 : zseg (zown X_count) (zcode X_count) 64 [(.aload_n 0, 1, 0, 0, 0), (.getfield 56, 3, 0, 10, 6), (.getfield 302, 3, 0, 2, 4)] 71 = true := by decide +kernel
theorem X_count_s72 : zseg (zown X_count) (zcode X_count) 72 [(.aload_n 0, 1, 0, 0, 0), (.getfield 63, 3, 0, 10, 7), (.getfield 313, 3, 0, 0, 2)] 79 = true := by decide +kernel
theorem X_count_s80 : zseg (zown X_count) (zcode X_count) 80 [(.aload_n 0, 1, 0, 0, 0), (.getfield 63, 3, 0, 10, 7), (.getfield 381, 3, 0, 0, 3)] 87 = true := by decide +kernel
theorem X_count_s88 : zseg (zown X_count) (zcode X_count) 88 [(.iconst (-1), 1, (-1), 0, 0)] 89 = true := by decide +kernel
theorem X_count_d1 : decode (zcode X_count) 1 = .ok (.tableswitch 87 0 5 #[39, 47, 55, 63, 71, 79], 39) := by decide +kernel
theorem X_count_d47 : decode (zcode X_count) 47 = .ok (.ireturn, 1) := by decide +kernel
theorem X_count_d55 : decode (zcode X_count) 55 = .ok (.ireturn, 1) := by decide +kernel
theorem X_count_d63 : decode (zcode X_count) 63 = .ok (.ireturn, 1) := by decide +kernel
theorem X_count_d71 : decode (zcode X_count) 71 = .ok (.ireturn, 1) := by decide +kernel
theorem X_count_d79 : decode (zcode X_count) 79 = .ok (.ireturn, 1) := by decide +kernel
theorem X_count_d87 : decode (zcode X_count) 87 = .ok (.ireturn, 1) := by decide +kernel
theorem X_count_d89 : decode (zcode X_count) 89 = .ok (.ireturn, 1) := by decide +kernel
theorem X_isWithin_s0 : zseg (zown X_isWithin) (zcode X_isWithin) 0 [(.iload_n 0, 1, 0, 0, 0)] 1 = true := by decide +kernel
theorem X_isWithin_s4 : zseg (zown X_isWithin) (zcode X_isWithin) 4 [(.iload_n 0, 1, 0, 0, 0), (.iload_n 1, 1, 0, 0, 0)] 6 = true := by decide +kernel
theorem X_isWithin_s9 : zseg (zown X_isWithin) (zcode X_isWithin) 9 [(.iconst 1, 1, 1, 0, 0), (.goto 4, 3, 0, 0, 0)] 14 = true := by decide +kernel
theorem X_isWithin_s13 : zseg (zown X_isWithin) (zcode X_isWithin) 13 [(.iconst 0, 1, 0, 0, 0)] 14 = true := by decide +kernel
theorem X_isWithin_d1 : decode (zcode X_isWithin) 1 = .ok (.ifCond .lt 12, 3) := by decide +kernel
theorem X_isWithin_d6 : decode (zcode X_isWithin) 6 = .ok (.if_icmp .gt 7, 3) := by decide +kernel
theorem X_isWithin_d14 : decode (zcode X_isWithin) 14 = .ok (.ireturn, 1) := by decide +kernel
theorem X_isDayHour_s0 : zseg (zown X_isDayHour) (zcode X_isDayHour) 0 [(.iload_n 0, 1, 0, 0, 0)] 1 = true := by decide +kernel
theorem X_isDayHour_s4 : zseg (zown X_isDayHour) (zcode X_isDayHour) 4 [(.iload_n 0, 1, 0, 0, 0), (.bipush 100, 2, 100, 0, 0), (.idiv, 1, 0, 0, 0), (.sipush 998, 3, 998, 0, 0)] 11 = true := by decide +kernel
theorem X_isDayHour_s14 : zseg (zown X_isDayHour) (zcode X_isDayHour) 14 [(.iload_n 0, 1, 0, 0, 0), (.bipush 100, 2, 100, 0, 0), (.irem, 1, 0, 0, 0), (.bipush 23, 2, 23, 0, 0)] 20 = true := by decide +kernel
theorem X_isDayHour_s23 : zseg (zown X_isDayHour) (zcode X_isDayHour) 23 [(.iconst 1, 1, 1, 0, 0), (.goto 4, 3, 0, 0, 0)] 28 = true := by decide +kernel
theorem X_isDayHour_s27 : zseg (zown X_isDayHour) (zcode X_isDayHour) 27 [(.iconst 0, 1, 0, 0, 0)] 28 = true := by decide +kernel
theorem X_isDayHour_d1 : decode (zcode X_isDayHour) 1 = .ok (.ifCond .lt 26, 3) := by decide +kernel
theorem X_isDayHour_d11 : decode (zcode X_isDayHour) 11 = .ok (.if_icmp .gt 16, 3) := by decide +kernel
theorem X_isDayHour_d20 : decode (zcode X_isDayHour) 20 = .ok (.if_icmp .gt 7, 3) := by decide +kernel
theorem X_isDayHour_d28 : decode (zcode X_isDayHour) 28 = .ok (.ireturn, 1) := by decide +kernel
theorem X_isHourDays_s0 : zseg (zown X_isHourDays) (zcode X_isHourDays) 0 [(.iload_n 0, 1, 0, 0, 0)] 1 = true := by decide +kernel
theorem X_isHourDays_s4 : zseg (zown X_isHourDays) (zcode X_isHourDays) 4 [(.iload_n 0, 1, 0, 0, 0), (.bipush 100, 2, 100, 0, 0), (.idiv, 1, 0, 0, 0), (.bipush 23, 2, 23, 0, 0)] 10 = true := by decide +kernel
theorem X_isHourDays_s13 : zseg (zown X_isHourDays) (zcode X_isHourDays) 13 [(.iconst 1, 1, 1, 0, 0), (.goto 4, 3, 0, 0, 0)] 18 = true := by decide +kernel
theorem X_isHourDays_s17 : zseg (zown X_isHourDays) (zcode X_isHourDays) 17 [(.iconst 0, 1, 0, 0, 0)] 18 = true := by decide +kernel
theorem X_isHourDays_d1 : decode (zcode X_isHourDays) 1 = .ok (.ifCond .lt 16, 3) := by decide +kernel
theorem X_isHourDays_d10 : decode (zcode X_isHourDays) 10 = .ok (.if_icmp .gt 7, 3) := by decide +kernel
theorem X_isHourDays_d18 : decode (zcode X_isHourDays) 18 = .ok (.ireturn, 1) := by decide +kernel
theorem X_bit_s0 : zseg (zown X_bit) (zcode X_bit) 0 [(.iload_n 0, 1, 0, 0, 0)] 1 = true := by decide +kernel
theorem X_bit_s4 : zseg (zown X_bit) (zcode X_bit) 4 [(.iconst 1, 1, 1, 0, 0), (.goto 4, 3, 0, 0, 0)] 9 = true := by decide +kernel
theorem X_bit_s8 : zseg (zown X_bit) (zcode X_bit) 8 [(.iconst 0, 1, 0, 0, 0)] 9 = true := by decide +kernel
theorem X_bit_d1 : decode (zcode X_bit) 1 = .ok (.ifCond .eq 7, 3) := by decide +kernel
theorem X_bit_d9 : decode (zcode X_bit) 9 = .ok (.ireturn, 1) := by decide +kernel
theorem X_shelfAt_s0 : zseg (zown X_shelfAt) (zcode X_shelfAt) 0 [(.iload_n 1, 1, 0, 0, 0), (.iconst 5, 1, 5, 0, 0)] 2 = true := by decide +kernel
theorem X_shelfAt_s8 : zseg (zown X_shelfAt) (zcode X_shelfAt) 8 [(.aload_n 0, 1, 0, 0, 0), (.getfield 69, 3, 0, 10, 8), (.iload_n 1, 1, 0, 0, 0), (.aaload, 1, 0, 0, 0), (.goto 4, 3, 0, 0, 0)] 18 = true := by decide +kernel
theorem X_shelfAt_s17 : zseg (zown X_shelfAt) (zcode X_shelfAt) 17 [(.aconst_null, 1, 0, 0, 0)] 18 = true := by decide +kernel
theorem X_shelfAt_d2 : decode (zcode X_shelfAt) 2 = .ok (.invokestatic 170, 3) := by decide +kernel
theorem X_shelfAt_d5 : decode (zcode X_shelfAt) 5 = .ok (.ifCond .eq 12, 3) := by decide +kernel
theorem X_shelfAt_d18 : decode (zcode X_shelfAt) 18 = .ok (.areturn, 1) := by decide +kernel
theorem X_vowsFrom_s0 : zseg (zown X_vowsFrom) (zcode X_vowsFrom) 0 [(.iconst 0, 1, 0, 0, 0), (.istore 4, 2, 0, 0, 0), (.iconst 0, 1, 0, 0, 0), (.istore 5, 2, 0, 0, 0)] 6 = true := by decide +kernel
theorem X_vowsFrom_s6 : zseg (zown X_vowsFrom) (zcode X_vowsFrom) 6 [(.iload 5, 2, 0, 0, 0), (.iload_n 3, 1, 0, 0, 0)] 9 = true := by decide +kernel
theorem X_vowsFrom_s12 : zseg (zown X_vowsFrom) (zcode X_vowsFrom) 12 [(.aload_n 0, 1, 0, 0, 0), (.getfield 10, 3, 0, 10, 0), (.getfield 86, 3, 0, 4, 8), (.bipush 12, 2, 12, 0, 0)] 21 = true := by decide +kernel
theorem X_vowsFrom_s24 : zseg (zown X_vowsFrom) (zcode X_vowsFrom) 24 [(.iload_n 2, 1, 0, 0, 0), (.i2l, 1, 0, 0, 0), (.ldc2_w 384, 3, 0, 0, 0), (.iload 5, 2, 0, 0, 0), (.i2l, 1, 0, 0, 0), (.lmul, 1, 0, 0, 0), (.ladd, 1, 0, 0, 0), (.lstore 6, 2, 0, 0, 0), (.lload 6, 2, 0, 0, 0), (.lconst 0, 1, 0, 0, 0), (.lcmp, 1, 0, 0, 0)] 40 = true := by decide +kernel
theorem X_vowsFrom_s43 : zseg (zown X_vowsFrom) (zcode X_vowsFrom) 43 [(.lload 6, 2, 0, 0, 0), (.ldc2_w 384, 3, 0, 0, 0), (.ladd, 1, 0, 0, 0), (.aload_n 1, 1, 0, 0, 0), (.getfield 386, 3, 0, 8, 3), (.i2l, 1, 0, 0, 0), (.lcmp, 1, 0, 0, 0)] 55 = true := by decide +kernel
theorem X_vowsFrom_s58 : zseg (zown X_vowsFrom) (zcode X_vowsFrom) 58 [(.goto 84, 3, 0, 0, 0), (.iload 4, 2, 0, 0, 0)] 144 = true := by decide +kernel
theorem X_vowsFrom_s61 : zseg (zown X_vowsFrom) (zcode X_vowsFrom) 61 [(.lload 6, 2, 0, 0, 0), (.l2i, 1, 0, 0, 0), (.istore 8, 2, 0, 0, 0), (.aload_n 1, 1, 0, 0, 0), (.getfield 345, 3, 0, 8, 0), (.iload 8, 2, 0, 0, 0), (.laload, 1, 0, 0, 0), (.l2i, 1, 0, 0, 0), (.istore 9, 2, 0, 0, 0), (.aload_n 1, 1, 0, 0, 0), (.getfield 345, 3, 0, 8, 0), (.iload 8, 2, 0, 0, 0), (.iconst 1, 1, 1, 0, 0), (.iadd, 1, 0, 0, 0), (.laload, 1, 0, 0, 0), (.l2i, 1, 0, 0, 0), (.istore 10, 2, 0, 0, 0), (.aload_n 1, 1, 0, 0, 0), (.getfield 345, 3, 0, 8, 0), (.iload 8, 2, 0, 0, 0), (.iconst 2, 1, 2, 0, 0), (.iadd, 1, 0, 0, 0), (.laload, 1, 0, 0, 0), (.l2i, 1, 0, 0, 0), (.istore 11, 2, 0, 0, 0), (.aload_n 0, 1, 0, 0, 0), (.getfield 10, 3, 0, 10, 0), (.iload 9, 2, 0, 0, 0), (.iload 10, 2, 0, 0, 0), (.iload 11, 2, 0, 0, 0)] 110 = true := by decide +kernel
theorem X_vowsFrom_s116 : zseg (zown X_vowsFrom) (zcode X_vowsFrom) 116 [(.goto 26, 3, 0, 0, 0), (.iload 4, 2, 0, 0, 0)] 144 = true := by decide +kernel
theorem X_vowsFrom_s119 : zseg (zown X_vowsFrom) (zcode X_vowsFrom) 119 [(.aload_n 0, 1, 0, 0, 0), (.getfield 10, 3, 0, 10, 0), (.iload 9, 2, 0, 0, 0), (.iload 10, 2, 0, 0, 0), (.iload 11, 2, 0, 0, 0)] 129 = true := by decide +kernel
theorem X_vowsFrom_s132 : zseg (zown X_vowsFrom) (zcode X_vowsFrom) 132 [(.pop, 1, 0, 0, 0), (.iinc 4 1, 3, 1, 0, 0), (.iinc 5 1, 3, 1, 0, 0), (.goto (-133), 3, 0, 0, 0)] 6 = true := by decide +kernel
theorem X_vowsFrom_s142 : zseg (zown X_vowsFrom) (zcode X_vowsFrom) 142 [(.iload 4, 2, 0, 0, 0)] 144 = true := by decide +kernel
theorem X_vowsFrom_d9 : decode (zcode X_vowsFrom) 9 = .ok (.if_icmp .ge 133, 3) := by decide +kernel
theorem X_vowsFrom_d21 : decode (zcode X_vowsFrom) 21 = .ok (.if_icmp .ge 121, 3) := by decide +kernel
theorem X_vowsFrom_d40 : decode (zcode X_vowsFrom) 40 = .ok (.ifCond .lt 102, 3) := by decide +kernel
theorem X_vowsFrom_d55 : decode (zcode X_vowsFrom) 55 = .ok (.ifCond .le 6, 3) := by decide +kernel
theorem X_vowsFrom_d144 : decode (zcode X_vowsFrom) 144 = .ok (.ireturn, 1) := by decide +kernel
theorem X_vowsFrom_d110 : decode (zcode X_vowsFrom) 110 = .ok (.invokevirtual 82, 3) := by decide +kernel
theorem X_vowsFrom_d113 : decode (zcode X_vowsFrom) 113 = .ok (.ifCond .ne 6, 3) := by decide +kernel
theorem X_vowsFrom_d129 : decode (zcode X_vowsFrom) 129 = .ok (.invokevirtual 89, 3) := by decide +kernel
