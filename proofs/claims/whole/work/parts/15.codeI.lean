/-! by program (wip/whole/gen_code.py): records, stretches, decode facts -/
theorem A_hasBody_s0 : zseg (zown A_hasBody) (zcode A_hasBody) 0 [(.iload_n 1, 1, 0, 0, 0)] 1 = true := by decide +kernel
theorem A_hasBody_s4 : zseg (zown A_hasBody) (zcode A_hasBody) 4 [(.iload_n 1, 1, 0, 0, 0), (.aload_n 0, 1, 0, 0, 0), (.getfield 18, 3, 0, 0, 2)] 9 = true := by decide +kernel
theorem A_hasBody_s12 : zseg (zown A_hasBody) (zcode A_hasBody) 12 [(.iconst 1, 1, 1, 0, 0), (.goto 4, 3, 0, 0, 0)] 17 = true := by decide +kernel
theorem A_hasBody_s16 : zseg (zown A_hasBody) (zcode A_hasBody) 16 [(.iconst 0, 1, 0, 0, 0)] 17 = true := by decide +kernel
theorem A_hasBody_d1 : decode (zcode A_hasBody) 1 = .ok (.ifCond .lt 15, 3) := by decide +kernel
theorem A_hasBody_d9 : decode (zcode A_hasBody) 9 = .ok (.if_icmp .ge 7, 3) := by decide +kernel
theorem A_hasBody_d17 : decode (zcode A_hasBody) 17 = .ok (.ireturn, 1) := by decide +kernel
theorem A_addBody_s0 : zseg (zown A_addBody) (zcode A_addBody) 0 [(.aload_n 0, 1, 0, 0, 0), (.getfield 18, 3, 0, 0, 2), (.bipush 50, 2, 50, 0, 0)] 6 = true := by decide +kernel
theorem A_addBody_s9 : zseg (zown A_addBody) (zcode A_addBody) 9 [(.bipush (-3), 2, (-3), 0, 0)] 11 = true := by decide +kernel
theorem A_addBody_s12 : zseg (zown A_addBody) (zcode A_addBody) 12 [(.aload_n 0, 1, 0, 0, 0), (.getfield 11, 3, 0, 0, 0), (.aload_n 0, 1, 0, 0, 0), (.getfield 18, 3, 0, 0, 2), (.iload_n 1, 1, 0, 0, 0), (.iastore, 1, 0, 0, 0), (.aload_n 0, 1, 0, 0, 0), (.dup, 1, 0, 0, 0), (.getfield 18, 3, 0, 0, 2), (.dup_x1, 1, 0, 0, 0), (.iconst 1, 1, 1, 0, 0), (.iadd, 1, 0, 0, 0), (.putfield 18, 3, 0, 0, 2)] 33 = true := by decide +kernel
theorem A_addBody_d6 : decode (zcode A_addBody) 6 = .ok (.if_icmp .lt 6, 3) := by decide +kernel
theorem A_addBody_d11 : decode (zcode A_addBody) 11 = .ok (.ireturn, 1) := by decide +kernel
theorem A_addBody_d33 : decode (zcode A_addBody) 33 = .ok (.ireturn, 1) := by decide +kernel
theorem A_kept_s0 : zseg (zown A_kept) (zcode A_kept) 0 [(.aload_n 0, 1, 0, 0, 0), (.getfield 22, 3, 0, 0, 3), (.bipush 24, 2, 24, 0, 0)] 6 = true := by decide +kernel
theorem A_kept_d6 : decode (zcode A_kept) 6 = .ok (.invokestatic 25, 3) := by decide +kernel
theorem A_kept_d9 : decode (zcode A_kept) 9 = .ok (.ireturn, 1) := by decide +kernel
theorem A_isUnder_s0 : zseg (zown A_isUnder) (zcode A_isUnder) 0 [(.aload_n 0, 1, 0, 0, 0), (.iload_n 1, 1, 0, 0, 0)] 2 = true := by decide +kernel
theorem A_isUnder_s8 : zseg (zown A_isUnder) (zcode A_isUnder) 8 [(.aload_n 0, 1, 0, 0, 0), (.getfield 11, 3, 0, 0, 0), (.iload_n 1, 1, 0, 0, 0), (.iaload, 1, 0, 0, 0), (.goto 4, 3, 0, 0, 0), (.istore_n 3, 1, 0, 0, 0), (.iconst 0, 1, 0, 0, 0), (.istore 4, 2, 0, 0, 0)] 22 = true := by decide +kernel
theorem A_isUnder_s17 : zseg (zown A_isUnder) (zcode A_isUnder) 17 [(.iconst (-1), 1, (-1), 0, 0), (.istore_n 3, 1, 0, 0, 0), (.iconst 0, 1, 0, 0, 0), (.istore 4, 2, 0, 0, 0)] 22 = true := by decide +kernel
theorem A_isUnder_s22 : zseg (zown A_isUnder) (zcode A_isUnder) 22 [(.iload 4, 2, 0, 0, 0), (.bipush 8, 2, 8, 0, 0)] 26 = true := by decide +kernel
theorem A_isUnder_s29 : zseg (zown A_isUnder) (zcode A_isUnder) 29 [(.iload_n 3, 1, 0, 0, 0)] 30 = true := by decide +kernel
theorem A_isUnder_s33 : zseg (zown A_isUnder) (zcode A_isUnder) 33 [(.iload_n 3, 1, 0, 0, 0), (.bipush 8, 2, 8, 0, 0)] 36 = true := by decide +kernel
theorem A_isUnder_s39 : zseg (zown A_isUnder) (zcode A_isUnder) 39 [(.iload_n 3, 1, 0, 0, 0), (.iload_n 2, 1, 0, 0, 0)] 41 = true := by decide +kernel
theorem A_isUnder_s44 : zseg (zown A_isUnder) (zcode A_isUnder) 44 [(.iconst 1, 1, 1, 0, 0)] 45 = true := by decide +kernel
theorem A_isUnder_s46 : zseg (zown A_isUnder) (zcode A_isUnder) 46 [(.getstatic 35, 3, 0, 0, 101), (.iload_n 3, 1, 0, 0, 0), (.iaload, 1, 0, 0, 0), (.istore_n 3, 1, 0, 0, 0), (.iinc 4 1, 3, 1, 0, 0), (.goto (-33), 3, 0, 0, 0)] 22 = true := by decide +kernel
theorem A_isUnder_s58 : zseg (zown A_isUnder) (zcode A_isUnder) 58 [(.iconst 0, 1, 0, 0, 0)] 59 = true := by decide +kernel
theorem A_isUnder_d2 : decode (zcode A_isUnder) 2 = .ok (.invokevirtual 31, 3) := by decide +kernel
theorem A_isUnder_d5 : decode (zcode A_isUnder) 5 = .ok (.ifCond .eq 12, 3) := by decide +kernel
theorem A_isUnder_d26 : decode (zcode A_isUnder) 26 = .ok (.if_icmp .ge 32, 3) := by decide +kernel
theorem A_isUnder_d30 : decode (zcode A_isUnder) 30 = .ok (.ifCond .lt 28, 3) := by decide +kernel
theorem A_isUnder_d36 : decode (zcode A_isUnder) 36 = .ok (.if_icmp .ge 22, 3) := by decide +kernel
theorem A_isUnder_d41 : decode (zcode A_isUnder) 41 = .ok (.if_icmp .ne 5, 3) := by decide +kernel
theorem A_isUnder_d45 : decode (zcode A_isUnder) 45 = .ok (.ireturn, 1) := by decide +kernel
theorem A_isUnder_d59 : decode (zcode A_isUnder) 59 = .ok (.ireturn, 1) := by decide +kernel
theorem A_start_s0 : zseg (zown A_start) (zcode A_start) 0 [(.aload_n 0, 1, 0, 0, 0), (.iconst 0, 1, 0, 0, 0), (.putfield 22, 3, 0, 0, 3), (.aload_n 0, 1, 0, 0, 0), (.iload_n 1, 1, 0, 0, 0)] 7 = true := by decide +kernel
theorem A_start_s13 : zseg (zown A_start) (zcode A_start) 13 [(.iload_n 2, 1, 0, 0, 0)] 14 = true := by decide +kernel
theorem A_start_s17 : zseg (zown A_start) (zcode A_start) 17 [(.iload_n 2, 1, 0, 0, 0), (.iconst 4, 1, 4, 0, 0)] 19 = true := by decide +kernel
theorem A_start_s22 : zseg (zown A_start) (zcode A_start) 22 [(.iconst 0, 1, 0, 0, 0)] 23 = true := by decide +kernel
theorem A_start_s24 : zseg (zown A_start) (zcode A_start) 24 [(.aload_n 0, 1, 0, 0, 0), (.iload_n 1, 1, 0, 0, 0), (.putfield 38, 3, 0, 0, 4), (.aload_n 0, 1, 0, 0, 0), (.iload_n 2, 1, 0, 0, 0), (.iload_n 3, 1, 0, 0, 0), (.iconst 0, 1, 0, 0, 0)] 33 = true := by decide +kernel
theorem A_start_d7 : decode (zcode A_start) 7 = .ok (.invokevirtual 31, 3) := by decide +kernel
theorem A_start_d10 : decode (zcode A_start) 10 = .ok (.ifCond .eq 12, 3) := by decide +kernel
theorem A_start_d14 : decode (zcode A_start) 14 = .ok (.ifCond .lt 8, 3) := by decide +kernel
theorem A_start_d19 : decode (zcode A_start) 19 = .ok (.if_icmp .lt 5, 3) := by decide +kernel
theorem A_start_d23 : decode (zcode A_start) 23 = .ok (.ireturn, 1) := by decide +kernel
theorem A_start_d33 : decode (zcode A_start) 33 = .ok (.invokevirtual 41, 3) := by decide +kernel
theorem A_start_d36 : decode (zcode A_start) 36 = .ok (.ireturn, 1) := by decide +kernel
theorem A_own_s0 : zseg (zown A_own) (zcode A_own) 0 [(.aload_n 0, 1, 0, 0, 0), (.aload_n 0, 1, 0, 0, 0), (.getfield 11, 3, 0, 0, 0), (.aload_n 0, 1, 0, 0, 0), (.getfield 38, 3, 0, 0, 4), (.iaload, 1, 0, 0, 0), (.iload_n 1, 1, 0, 0, 0), (.iload_n 2, 1, 0, 0, 0), (.iload_n 3, 1, 0, 0, 0)] 13 = true := by decide +kernel
theorem A_own_d13 : decode (zcode A_own) 13 = .ok (.invokevirtual 45, 3) := by decide +kernel
theorem A_own_d16 : decode (zcode A_own) 16 = .ok (.ireturn, 1) := by decide +kernel
theorem A_from_s0 : zseg (zown A_from) (zcode A_from) 0 [(.iload_n 1, 1, 0, 0, 0), (.istore 5, 2, 0, 0, 0), (.iconst 0, 1, 0, 0, 0), (.istore 6, 2, 0, 0, 0)] 6 = true := by decide +kernel
theorem A_from_s6 : zseg (zown A_from) (zcode A_from) 6 [(.iload 6, 2, 0, 0, 0), (.bipush 8, 2, 8, 0, 0)] 10 = true := by decide +kernel
theorem A_from_s13 : zseg (zown A_from) (zcode A_from) 13 [(.iload 5, 2, 0, 0, 0)] 15 = true := by decide +kernel
theorem A_from_s18 : zseg (zown A_from) (zcode A_from) 18 [(.iload 5, 2, 0, 0, 0), (.bipush 8, 2, 8, 0, 0)] 22 = true := by decide +kernel
theorem A_from_s25 : zseg (zown A_from) (zcode A_from) 25 [(.getstatic 49, 3, 0, 0, 102), (.iconst 4, 1, 4, 0, 0), (.iload 5, 2, 0, 0, 0), (.imul, 1, 0, 0, 0), (.iload_n 2, 1, 0, 0, 0), (.iadd, 1, 0, 0, 0), (.iaload, 1, 0, 0, 0)] 35 = true := by decide +kernel
theorem A_from_s38 : zseg (zown A_from) (zcode A_from) 38 [(.getstatic 35, 3, 0, 0, 101), (.iload 5, 2, 0, 0, 0), (.iaload, 1, 0, 0, 0), (.istore 5, 2, 0, 0, 0), (.iinc 6 1, 3, 1, 0, 0), (.goto (-43), 3, 0, 0, 0)] 6 = true := by decide +kernel
theorem A_from_s52 : zseg (zown A_from) (zcode A_from) 52 [(.iload 4, 2, 0, 0, 0), (.bipush 40, 2, 40, 0, 0)] 56 = true := by decide +kernel
theorem A_from_s59 : zseg (zown A_from) (zcode A_from) 59 [(.iload 5, 2, 0, 0, 0)] 61 = true := by decide +kernel
theorem A_from_s64 : zseg (zown A_from) (zcode A_from) 64 [(.iload 5, 2, 0, 0, 0), (.bipush 8, 2, 8, 0, 0)] 68 = true := by decide +kernel
theorem A_from_s71 : zseg (zown A_from) (zcode A_from) 71 [(.iconst 0, 1, 0, 0, 0)] 72 = true := by decide +kernel
theorem A_from_s73 : zseg (zown A_from) (zcode A_from) 73 [(.getstatic 49, 3, 0, 0, 102), (.iconst 4, 1, 4, 0, 0), (.iload 5, 2, 0, 0, 0), (.imul, 1, 0, 0, 0), (.iload_n 2, 1, 0, 0, 0), (.iadd, 1, 0, 0, 0), (.iaload, 1, 0, 0, 0), (.istore 6, 2, 0, 0, 0), (.aload_n 0, 1, 0, 0, 0), (.getfield 22, 3, 0, 0, 3), (.bipush 24, 2, 24, 0, 0)] 91 = true := by decide +kernel
theorem A_from_s94 : zseg (zown A_from) (zcode A_from) 94 [(.aload_n 0, 1, 0, 0, 0), (.getfield 15, 3, 0, 0, 1), (.aload_n 0, 1, 0, 0, 0), (.getfield 22, 3, 0, 0, 3), (.iload 6, 2, 0, 0, 0), (.iastore, 1, 0, 0, 0), (.aload_n 0, 1, 0, 0, 0), (.dup, 1, 0, 0, 0), (.getfield 22, 3, 0, 0, 3), (.iconst 1, 1, 1, 0, 0), (.iadd, 1, 0, 0, 0), (.putfield 22, 3, 0, 0, 3), (.aload_n 0, 1, 0, 0, 0), (.iload 6, 2, 0, 0, 0), (.getstatic 35, 3, 0, 0, 101), (.iload 5, 2, 0, 0, 0), (.iaload, 1, 0, 0, 0), (.iload_n 3, 1, 0, 0, 0), (.iload 4, 2, 0, 0, 0), (.iconst 1, 1, 1, 0, 0), (.iadd, 1, 0, 0, 0)] 129 = true := by decide +kernel
theorem A_from_s105 : zseg (zown A_from) (zcode A_from) 105 [(.aload_n 0, 1, 0, 0, 0), (.dup, 1, 0, 0, 0), (.getfield 22, 3, 0, 0, 3), (.iconst 1, 1, 1, 0, 0), (.iadd, 1, 0, 0, 0), (.putfield 22, 3, 0, 0, 3), (.aload_n 0, 1, 0, 0, 0), (.iload 6, 2, 0, 0, 0), (.getstatic 35, 3, 0, 0, 101), (.iload 5, 2, 0, 0, 0), (.iaload, 1, 0, 0, 0), (.iload_n 3, 1, 0, 0, 0), (.iload 4, 2, 0, 0, 0), (.iconst 1, 1, 1, 0, 0), (.iadd, 1, 0, 0, 0)] 129 = true := by decide +kernel
theorem A_from_d10 : decode (zcode A_from) 10 = .ok (.if_icmp .ge 42, 3) := by decide +kernel
theorem A_from_d15 : decode (zcode A_from) 15 = .ok (.ifCond .le 37, 3) := by decide +kernel
theorem A_from_d22 : decode (zcode A_from) 22 = .ok (.if_icmp .ge 30, 3) := by decide +kernel
theorem A_from_d35 : decode (zcode A_from) 35 = .ok (.ifCond .ne 17, 3) := by decide +kernel
theorem A_from_d56 : decode (zcode A_from) 56 = .ok (.if_icmp .ge 15, 3) := by decide +kernel
theorem A_from_d61 : decode (zcode A_from) 61 = .ok (.ifCond .lt 10, 3) := by decide +kernel
theorem A_from_d68 : decode (zcode A_from) 68 = .ok (.if_icmp .lt 5, 3) := by decide +kernel
theorem A_from_d72 : decode (zcode A_from) 72 = .ok (.ireturn, 1) := by decide +kernel
theorem A_from_d91 : decode (zcode A_from) 91 = .ok (.if_icmp .ge 14, 3) := by decide +kernel
theorem A_from_d129 : decode (zcode A_from) 129 = .ok (.invokevirtual 52, 3) := by decide +kernel
theorem A_from_d132 : decode (zcode A_from) 132 = .ok (.ireturn, 1) := by decide +kernel
theorem A_run_s0 : zseg (zown A_run) (zcode A_run) 0 [(.iload_n 1, 1, 0, 0, 0)] 1 = true := by decide +kernel
theorem A_run_s116 : zseg (zown A_run) (zcode A_run) 116 [(.iload_n 3, 1, 0, 0, 0), (.aload_n 0, 1, 0, 0, 0), (.getfield 38, 3, 0, 0, 4), (.iadd, 1, 0, 0, 0)] 122 = true := by decide +kernel
theorem A_run_s123 : zseg (zown A_run) (zcode A_run) 123 [(.aload_n 0, 1, 0, 0, 0), (.iconst 1, 1, 1, 0, 0), (.iload_n 3, 1, 0, 0, 0), (.iload 4, 2, 0, 0, 0)] 128 = true := by decide +kernel
theorem A_run_s131 : zseg (zown A_run) (zcode A_run) 131 [(.aload_n 0, 1, 0, 0, 0), (.iconst 2, 1, 2, 0, 0), (.iconst 1, 1, 1, 0, 0), (.iload 4, 2, 0, 0, 0)] 136 = true := by decide +kernel
theorem A_run_s139 : zseg (zown A_run) (zcode A_run) 139 [(.isub, 1, 0, 0, 0)] 140 = true := by decide +kernel
theorem A_run_s141 : zseg (zown A_run) (zcode A_run) 141 [(.aload_n 0, 1, 0, 0, 0), (.iconst 0, 1, 0, 0, 0), (.iload_n 3, 1, 0, 0, 0), (.iload 4, 2, 0, 0, 0)] 146 = true := by decide +kernel
theorem A_run_s149 : zseg (zown A_run) (zcode A_run) 149 [(.iconst 2, 1, 2, 0, 0), (.imul, 1, 0, 0, 0)] 151 = true := by decide +kernel
theorem A_run_s152 : zseg (zown A_run) (zcode A_run) 152 [(.iload_n 3, 1, 0, 0, 0), (.aload_n 0, 1, 0, 0, 0), (.getfield 38, 3, 0, 0, 4), (.ixor, 1, 0, 0, 0)] 158 = true := by decide +kernel
theorem A_run_s159 : zseg (zown A_run) (zcode A_run) 159 [(.aload_n 0, 1, 0, 0, 0), (.iload_n 2, 1, 0, 0, 0), (.iconst 0, 1, 0, 0, 0), (.iload_n 3, 1, 0, 0, 0), (.iload 4, 2, 0, 0, 0)] 165 = true := by decide +kernel
theorem A_run_s168 : zseg (zown A_run) (zcode A_run) 168 [(.iconst 3, 1, 3, 0, 0), (.iadd, 1, 0, 0, 0)] 170 = true := by decide +kernel
theorem A_run_s171 : zseg (zown A_run) (zcode A_run) 171 [(.aload_n 0, 1, 0, 0, 0), (.iload_n 2, 1, 0, 0, 0), (.iconst 1, 1, 1, 0, 0), (.iload_n 3, 1, 0, 0, 0), (.iload 4, 2, 0, 0, 0)] 177 = true := by decide +kernel
theorem A_run_s180 : zseg (zown A_run) (zcode A_run) 180 [(.ineg, 1, 0, 0, 0)] 181 = true := by decide +kernel
theorem A_run_s182 : zseg (zown A_run) (zcode A_run) 182 [(.aload_n 0, 1, 0, 0, 0), (.iload_n 2, 1, 0, 0, 0), (.iconst 2, 1, 2, 0, 0), (.iload_n 3, 1, 0, 0, 0), (.iload 4, 2, 0, 0, 0)] 188 = true := by decide +kernel
theorem A_run_s191 : zseg (zown A_run) (zcode A_run) 191 [(.iconst 3, 1, 3, 0, 0), (.imul, 1, 0, 0, 0)] 193 = true := by decide +kernel
theorem A_run_s194 : zseg (zown A_run) (zcode A_run) 194 [(.aload_n 0, 1, 0, 0, 0), (.iload_n 2, 1, 0, 0, 0), (.iconst 1, 1, 1, 0, 0), (.iload_n 3, 1, 0, 0, 0), (.iconst 1, 1, 1, 0, 0), (.iadd, 1, 0, 0, 0), (.iload 4, 2, 0, 0, 0)] 202 = true := by decide +kernel
theorem A_run_s206 : zseg (zown A_run) (zcode A_run) 206 [(.aload_n 0, 1, 0, 0, 0), (.iload_n 2, 1, 0, 0, 0), (.iconst 2, 1, 2, 0, 0), (.iload_n 3, 1, 0, 0, 0), (.iload 4, 2, 0, 0, 0)] 212 = true := by decide +kernel
theorem A_run_s215 : zseg (zown A_run) (zcode A_run) 215 [(.aload_n 0, 1, 0, 0, 0), (.iconst 0, 1, 0, 0, 0), (.iconst 2, 1, 2, 0, 0), (.iload 4, 2, 0, 0, 0)] 220 = true := by decide +kernel
theorem A_run_s223 : zseg (zown A_run) (zcode A_run) 223 [(.isub, 1, 0, 0, 0)] 224 = true := by decide +kernel
theorem A_run_s225 : zseg (zown A_run) (zcode A_run) 225 [(.aload_n 0, 1, 0, 0, 0), (.iload_n 2, 1, 0, 0, 0), (.iconst 3, 1, 3, 0, 0), (.iload_n 3, 1, 0, 0, 0), (.iload 4, 2, 0, 0, 0)] 231 = true := by decide +kernel
theorem A_run_s234 : zseg (zown A_run) (zcode A_run) 234 [(.iconst 5, 1, 5, 0, 0), (.ixor, 1, 0, 0, 0)] 236 = true := by decide +kernel
theorem A_run_s237 : zseg (zown A_run) (zcode A_run) 237 [(.aload_n 0, 1, 0, 0, 0), (.iload_n 2, 1, 0, 0, 0), (.iconst 0, 1, 0, 0, 0), (.iload_n 3, 1, 0, 0, 0), (.iload 4, 2, 0, 0, 0)] 243 = true := by decide +kernel
theorem A_run_s246 : zseg (zown A_run) (zcode A_run) 246 [(.iconst 2, 1, 2, 0, 0), (.imul, 1, 0, 0, 0)] 248 = true := by decide +kernel
theorem A_run_s249 : zseg (zown A_run) (zcode A_run) 249 [(.aload_n 0, 1, 0, 0, 0), (.iload_n 2, 1, 0, 0, 0), (.iconst 1, 1, 1, 0, 0), (.iload_n 3, 1, 0, 0, 0), (.iload 4, 2, 0, 0, 0)] 255 = true := by decide +kernel
theorem A_run_s258 : zseg (zown A_run) (zcode A_run) 258 [(.aload_n 0, 1, 0, 0, 0), (.iconst 2, 1, 2, 0, 0), (.iconst 2, 1, 2, 0, 0), (.iload 4, 2, 0, 0, 0)] 263 = true := by decide +kernel
theorem A_run_s266 : zseg (zown A_run) (zcode A_run) 266 [(.iadd, 1, 0, 0, 0)] 267 = true := by decide +kernel
theorem A_run_s268 : zseg (zown A_run) (zcode A_run) 268 [(.aload_n 0, 1, 0, 0, 0), (.iload_n 2, 1, 0, 0, 0), (.iconst 3, 1, 3, 0, 0), (.iload_n 3, 1, 0, 0, 0), (.iload 4, 2, 0, 0, 0)] 274 = true := by decide +kernel
theorem A_run_s277 : zseg (zown A_run) (zcode A_run) 277 [(.iconst 1, 1, 1, 0, 0), (.isub, 1, 0, 0, 0)] 279 = true := by decide +kernel
theorem A_run_s280 : zseg (zown A_run) (zcode A_run) 280 [(.iconst 0, 1, 0, 0, 0)] 281 = true := by decide +kernel
theorem A_run_d1 : decode (zcode A_run) 1 = .ok (.lookupswitch 279 #[(1, 115), (2, 122), (10, 140), (11, 151), (20, 158), (30, 170), (40, 181), (41, 193), (50, 205), (60, 224), (70, 236), (80, 248), (81, 267)], 115) := by decide +kernel
theorem A_run_d122 : decode (zcode A_run) 122 = .ok (.ireturn, 1) := by decide +kernel
theorem A_run_d128 : decode (zcode A_run) 128 = .ok (.invokevirtual 41, 3) := by decide +kernel
theorem A_run_d136 : decode (zcode A_run) 136 = .ok (.invokevirtual 41, 3) := by decide +kernel
theorem A_run_d140 : decode (zcode A_run) 140 = .ok (.ireturn, 1) := by decide +kernel
theorem A_run_d146 : decode (zcode A_run) 146 = .ok (.invokevirtual 41, 3) := by decide +kernel
theorem A_run_d151 : decode (zcode A_run) 151 = .ok (.ireturn, 1) := by decide +kernel
theorem A_run_d158 : decode (zcode A_run) 158 = .ok (.ireturn, 1) := by decide +kernel
theorem A_run_d165 : decode (zcode A_run) 165 = .ok (.invokevirtual 45, 3) := by decide +kernel
theorem A_run_d170 : decode (zcode A_run) 170 = .ok (.ireturn, 1) := by decide +kernel
theorem A_run_d177 : decode (zcode A_run) 177 = .ok (.invokevirtual 45, 3) := by decide +kernel
theorem A_run_d181 : decode (zcode A_run) 181 = .ok (.ireturn, 1) := by decide +kernel
theorem A_run_d188 : decode (zcode A_run) 188 = .ok (.invokevirtual 45, 3) := by decide +kernel
theorem A_run_d193 : decode (zcode A_run) 193 = .ok (.ireturn, 1) := by decide +kernel
theorem A_run_d202 : decode (zcode A_run) 202 = .ok (.invokevirtual 45, 3) := by decide +kernel
theorem A_run_d205 : decode (zcode A_run) 205 = .ok (.ireturn, 1) := by decide +kernel
theorem A_run_d212 : decode (zcode A_run) 212 = .ok (.invokevirtual 45, 3) := by decide +kernel
theorem A_run_d220 : decode (zcode A_run) 220 = .ok (.invokevirtual 41, 3) := by decide +kernel
theorem A_run_d224 : decode (zcode A_run) 224 = .ok (.ireturn, 1) := by decide +kernel
theorem A_run_d231 : decode (zcode A_run) 231 = .ok (.invokevirtual 45, 3) := by decide +kernel
theorem A_run_d236 : decode (zcode A_run) 236 = .ok (.ireturn, 1) := by decide +kernel
theorem A_run_d243 : decode (zcode A_run) 243 = .ok (.invokevirtual 45, 3) := by decide +kernel
theorem A_run_d248 : decode (zcode A_run) 248 = .ok (.ireturn, 1) := by decide +kernel
theorem A_run_d255 : decode (zcode A_run) 255 = .ok (.invokevirtual 45, 3) := by decide +kernel
theorem A_run_d263 : decode (zcode A_run) 263 = .ok (.invokevirtual 41, 3) := by decide +kernel
theorem A_run_d267 : decode (zcode A_run) 267 = .ok (.ireturn, 1) := by decide +kernel
theorem A_run_d274 : decode (zcode A_run) 274 = .ok (.invokevirtual 45, 3) := by decide +kernel
theorem A_run_d279 : decode (zcode A_run) 279 = .ok (.ireturn, 1) := by decide +kernel
theorem A_run_d281 : decode (zcode A_run) 281 = .ok (.ireturn, 1) := by decide +kernel
theorem C_castInto_s0 : zseg (zown C_castInto) (zcode C_castInto) 0 [(.aload_n 0, 1, 0, 0, 0), (.getfield 18, 3, 0, 1, 3), (.iconst 0, 1, 0, 0, 0)] 5 = true := by decide +kernel
theorem C_castInto_s8 : zseg (zown C_castInto) (zcode C_castInto) 8 [(.iconst 0, 1, 0, 0, 0), (.istore 5, 2, 0, 0, 0)] 11 = true := by decide +kernel
theorem C_castInto_s11 : zseg (zown C_castInto) (zcode C_castInto) 11 [(.iload 5, 2, 0, 0, 0), (.iload_n 2, 1, 0, 0, 0)] 14 = true := by decide +kernel
theorem C_castInto_s17 : zseg (zown C_castInto) (zcode C_castInto) 17 [(.aload_n 0, 1, 0, 0, 0), (.getfield 30, 3, 0, 1, 0), (.aload_n 0, 1, 0, 0, 0), (.getfield 9, 3, 0, 1, 1), (.iload 5, 2, 0, 0, 0), (.iload_n 3, 1, 0, 0, 0), (.iconst 1, 1, 1, 0, 0), (.iload_n 1, 1, 0, 0, 0), (.ishl, 1, 0, 0, 0)] 31 = true := by decide +kernel
theorem C_castInto_s34 : zseg (zown C_castInto) (zcode C_castInto) 34 [(.aload_n 0, 1, 0, 0, 0), (.getfield 9, 3, 0, 1, 1)] 38 = true := by decide +kernel
theorem C_castInto_s41 : zseg (zown C_castInto) (zcode C_castInto) 41 [(.istore 6, 2, 0, 0, 0), (.aload_n 0, 1, 0, 0, 0), (.getfield 30, 3, 0, 1, 0), (.iload_n 1, 1, 0, 0, 0), (.iload 5, 2, 0, 0, 0)] 50 = true := by decide +kernel
theorem C_castInto_s53 : zseg (zown C_castInto) (zcode C_castInto) 53 [(.istore 7, 2, 0, 0, 0), (.iconst 0, 1, 0, 0, 0), (.istore 8, 2, 0, 0, 0)] 58 = true := by decide +kernel
theorem C_castInto_s58 : zseg (zown C_castInto) (zcode C_castInto) 58 [(.iload 8, 2, 0, 0, 0), (.aload_n 0, 1, 0, 0, 0), (.getfield 30, 3, 0, 1, 0), (.getfield 56, 3, 0, 4, 7)] 67 = true := by decide +kernel
theorem C_castInto_s70 : zseg (zown C_castInto) (zcode C_castInto) 70 [(.aload_n 0, 1, 0, 0, 0), (.getfield 9, 3, 0, 1, 1), (.iload 8, 2, 0, 0, 0), (.iaload, 1, 0, 0, 0), (.aload_n 0, 1, 0, 0, 0), (.getfield 30, 3, 0, 1, 0), (.iload_n 1, 1, 0, 0, 0), (.iload 8, 2, 0, 0, 0), (.iload 7, 2, 0, 0, 0), (.iload_n 3, 1, 0, 0, 0)] 87 = true := by decide +kernel
theorem C_castInto_s90 : zseg (zown C_castInto) (zcode C_castInto) 90 [(.iadd, 1, 0, 0, 0), (.istore 9, 2, 0, 0, 0), (.aload_n 0, 1, 0, 0, 0), (.getfield 18, 3, 0, 1, 3), (.iload 8, 2, 0, 0, 0), (.dup2, 1, 0, 0, 0), (.iaload, 1, 0, 0, 0), (.iload 6, 2, 0, 0, 0), (.aload_n 0, 1, 0, 0, 0), (.getfield 9, 3, 0, 1, 1), (.iload 8, 2, 0, 0, 0), (.iaload, 1, 0, 0, 0)] 110 = true := by decide +kernel
theorem C_castInto_s113 : zseg (zown C_castInto) (zcode C_castInto) 113 [(.iconst 1, 1, 1, 0, 0), (.goto 4, 3, 0, 0, 0)] 118 = true := by decide +kernel
theorem C_castInto_s117 : zseg (zown C_castInto) (zcode C_castInto) 117 [(.iconst 0, 1, 0, 0, 0)] 118 = true := by decide +kernel
theorem C_castInto_s121 : zseg (zown C_castInto) (zcode C_castInto) 121 [(.isub, 1, 0, 0, 0), (.iload 9, 2, 0, 0, 0)] 124 = true := by decide +kernel
theorem C_castInto_s127 : zseg (zown C_castInto) (zcode C_castInto) 127 [(.iconst 1, 1, 1, 0, 0), (.goto 4, 3, 0, 0, 0)] 132 = true := by decide +kernel
theorem C_castInto_s131 : zseg (zown C_castInto) (zcode C_castInto) 131 [(.iconst 0, 1, 0, 0, 0)] 132 = true := by decide +kernel
theorem C_castInto_s135 : zseg (zown C_castInto) (zcode C_castInto) 135 [(.iadd, 1, 0, 0, 0), (.iadd, 1, 0, 0, 0), (.iastore, 1, 0, 0, 0), (.iinc 8 1, 3, 1, 0, 0), (.goto (-83), 3, 0, 0, 0)] 58 = true := by decide +kernel
theorem C_castInto_s144 : zseg (zown C_castInto) (zcode C_castInto) 144 [(.iinc 5 1, 3, 1, 0, 0), (.goto (-136), 3, 0, 0, 0)] 11 = true := by decide +kernel
theorem C_castInto_s150 : zseg (zown C_castInto) (zcode C_castInto) 150 [(.iconst 0, 1, 0, 0, 0), (.istore 5, 2, 0, 0, 0), (.iconst 1, 1, 1, 0, 0), (.istore 6, 2, 0, 0, 0)] 156 = true := by decide +kernel
theorem C_castInto_s156 : zseg (zown C_castInto) (zcode C_castInto) 156 [(.iload 6, 2, 0, 0, 0), (.aload_n 0, 1, 0, 0, 0), (.getfield 30, 3, 0, 1, 0), (.getfield 56, 3, 0, 4, 7)] 165 = true := by decide +kernel
theorem C_castInto_s168 : zseg (zown C_castInto) (zcode C_castInto) 168 [(.aload_n 0, 1, 0, 0, 0), (.getfield 18, 3, 0, 1, 3), (.iload 6, 2, 0, 0, 0), (.iaload, 1, 0, 0, 0), (.aload_n 0, 1, 0, 0, 0), (.getfield 18, 3, 0, 1, 3), (.iload 5, 2, 0, 0, 0), (.iaload, 1, 0, 0, 0)] 182 = true := by decide +kernel
theorem C_castInto_s185 : zseg (zown C_castInto) (zcode C_castInto) 185 [(.iload 6, 2, 0, 0, 0), (.istore 5, 2, 0, 0, 0), (.iinc 6 1, 3, 1, 0, 0), (.goto (-36), 3, 0, 0, 0)] 156 = true := by decide +kernel
theorem C_castInto_s189 : zseg (zown C_castInto) (zcode C_castInto) 189 [(.iinc 6 1, 3, 1, 0, 0), (.goto (-36), 3, 0, 0, 0)] 156 = true := by decide +kernel
theorem C_castInto_s195 : zseg (zown C_castInto) (zcode C_castInto) 195 [(.iload 4, 2, 0, 0, 0)] 197 = true := by decide +kernel
theorem C_castInto_s200 : zseg (zown C_castInto) (zcode C_castInto) 200 [(.iload 5, 2, 0, 0, 0), (.goto 10, 3, 0, 0, 0)] 212 = true := by decide +kernel
theorem C_castInto_s205 : zseg (zown C_castInto) (zcode C_castInto) 205 [(.aload_n 0, 1, 0, 0, 0), (.getfield 18, 3, 0, 1, 3), (.iload 5, 2, 0, 0, 0), (.iaload, 1, 0, 0, 0)] 212 = true := by decide +kernel
theorem C_castInto_d5 : decode (zcode C_castInto) 5 = .ok (.invokestatic 34, 3) := by decide +kernel
theorem C_castInto_d14 : decode (zcode C_castInto) 14 = .ok (.if_icmp .gt 136, 3) := by decide +kernel
theorem C_castInto_d31 : decode (zcode C_castInto) 31 = .ok (.invokevirtual 40, 3) := by decide +kernel
theorem C_castInto_d38 : decode (zcode C_castInto) 38 = .ok (.invokestatic 46, 3) := by decide +kernel
theorem C_castInto_d50 : decode (zcode C_castInto) 50 = .ok (.invokevirtual 52, 3) := by decide +kernel
theorem C_castInto_d67 : decode (zcode C_castInto) 67 = .ok (.if_icmp .ge 77, 3) := by decide +kernel
theorem C_castInto_d87 : decode (zcode C_castInto) 87 = .ok (.invokevirtual 60, 3) := by decide +kernel
theorem C_castInto_d110 : decode (zcode C_castInto) 110 = .ok (.ifCond .eq 7, 3) := by decide +kernel
theorem C_castInto_d118 : decode (zcode C_castInto) 118 = .ok (.invokestatic 64, 3) := by decide +kernel
theorem C_castInto_d124 : decode (zcode C_castInto) 124 = .ok (.ifCond .eq 7, 3) := by decide +kernel
theorem C_castInto_d132 : decode (zcode C_castInto) 132 = .ok (.invokestatic 64, 3) := by decide +kernel
theorem C_castInto_d165 : decode (zcode C_castInto) 165 = .ok (.if_icmp .ge 30, 3) := by decide +kernel
theorem C_castInto_d182 : decode (zcode C_castInto) 182 = .ok (.if_icmp .ge 7, 3) := by decide +kernel
theorem C_castInto_d197 : decode (zcode C_castInto) 197 = .ok (.ifCond .ne 8, 3) := by decide +kernel
theorem C_castInto_d212 : decode (zcode C_castInto) 212 = .ok (.ireturn, 1) := by decide +kernel
theorem C_meltDown_s0 : zseg (zown C_meltDown) (zcode C_meltDown) 0 [(.aload_n 0, 1, 0, 0, 0), (.iload_n 1, 1, 0, 0, 0), (.iload_n 2, 1, 0, 0, 0), (.iload_n 3, 1, 0, 0, 0)] 4 = true := by decide +kernel
theorem C_meltDown_s7 : zseg (zown C_meltDown) (zcode C_meltDown) 7 [(.istore 5, 2, 0, 0, 0), (.aload_n 0, 1, 0, 0, 0), (.getfield 30, 3, 0, 1, 0), (.aload_n 0, 1, 0, 0, 0), (.getfield 9, 3, 0, 1, 1), (.iload_n 2, 1, 0, 0, 0), (.iload_n 3, 1, 0, 0, 0), (.aload_n 0, 1, 0, 0, 0), (.getfield 30, 3, 0, 1, 0), (.iload_n 1, 1, 0, 0, 0)] 24 = true := by decide +kernel
theorem C_meltDown_s30 : zseg (zown C_meltDown) (zcode C_meltDown) 30 [(.iconst 1, 1, 1, 0, 0), (.istore 6, 2, 0, 0, 0), (.iconst 0, 1, 0, 0, 0), (.istore 7, 2, 0, 0, 0)] 36 = true := by decide +kernel
theorem C_meltDown_s36 : zseg (zown C_meltDown) (zcode C_meltDown) 36 [(.iload 7, 2, 0, 0, 0), (.iload 5, 2, 0, 0, 0)] 40 = true := by decide +kernel
theorem C_meltDown_s43 : zseg (zown C_meltDown) (zcode C_meltDown) 43 [(.iload 6, 2, 0, 0, 0), (.aload_n 0, 1, 0, 0, 0), (.getfield 30, 3, 0, 1, 0), (.getfield 56, 3, 0, 4, 7), (.iconst 1, 1, 1, 0, 0), (.isub, 1, 0, 0, 0), (.imul, 1, 0, 0, 0), (.istore 6, 2, 0, 0, 0), (.iinc 7 1, 3, 1, 0, 0), (.goto (-24), 3, 0, 0, 0)] 36 = true := by decide +kernel
theorem C_meltDown_s63 : zseg (zown C_meltDown) (zcode C_meltDown) 63 [(.iconst 0, 1, 0, 0, 0), (.istore 7, 2, 0, 0, 0), (.bipush 7, 2, 7, 0, 0), (.istore 8, 2, 0, 0, 0), (.iconst 0, 1, 0, 0, 0), (.istore 9, 2, 0, 0, 0)] 73 = true := by decide +kernel
theorem C_meltDown_s73 : zseg (zown C_meltDown) (zcode C_meltDown) 73 [(.iload 9, 2, 0, 0, 0), (.iload 6, 2, 0, 0, 0)] 77 = true := by decide +kernel
theorem C_meltDown_s80 : zseg (zown C_meltDown) (zcode C_meltDown) 80 [(.aload_n 0, 1, 0, 0, 0), (.iload 9, 2, 0, 0, 0), (.iload 5, 2, 0, 0, 0), (.iload_n 1, 1, 0, 0, 0)] 86 = true := by decide +kernel
theorem C_meltDown_s89 : zseg (zown C_meltDown) (zcode C_meltDown) 89 [(.istore 10, 2, 0, 0, 0), (.iload 10, 2, 0, 0, 0), (.iload 8, 2, 0, 0, 0)] 95 = true := by decide +kernel
theorem C_meltDown_s98 : zseg (zown C_meltDown) (zcode C_meltDown) 98 [(.iload 10, 2, 0, 0, 0), (.istore 8, 2, 0, 0, 0), (.iload 9, 2, 0, 0, 0), (.istore 7, 2, 0, 0, 0), (.iinc 9 1, 3, 1, 0, 0), (.goto (-36), 3, 0, 0, 0)] 73 = true := by decide +kernel
theorem C_meltDown_s106 : zseg (zown C_meltDown) (zcode C_meltDown) 106 [(.iinc 9 1, 3, 1, 0, 0), (.goto (-36), 3, 0, 0, 0)] 73 = true := by decide +kernel
theorem C_meltDown_s112 : zseg (zown C_meltDown) (zcode C_meltDown) 112 [(.iload 4, 2, 0, 0, 0)] 114 = true := by decide +kernel
theorem C_meltDown_s117 : zseg (zown C_meltDown) (zcode C_meltDown) 117 [(.iload 8, 2, 0, 0, 0), (.goto 14, 3, 0, 0, 0)] 133 = true := by decide +kernel
theorem C_meltDown_s122 : zseg (zown C_meltDown) (zcode C_meltDown) 122 [(.aload_n 0, 1, 0, 0, 0), (.iload 7, 2, 0, 0, 0), (.iload 5, 2, 0, 0, 0), (.iload_n 1, 1, 0, 0, 0), (.iload 4, 2, 0, 0, 0)] 130 = true := by decide +kernel
theorem C_meltDown_d4 : decode (zcode C_meltDown) 4 = .ok (.invokevirtual 68, 3) := by decide +kernel
theorem C_meltDown_d24 : decode (zcode C_meltDown) 24 = .ok (.invokevirtual 72, 3) := by decide +kernel
theorem C_meltDown_d27 : decode (zcode C_meltDown) 27 = .ok (.invokevirtual 40, 3) := by decide +kernel
theorem C_meltDown_d40 : decode (zcode C_meltDown) 40 = .ok (.if_icmp .ge 23, 3) := by decide +kernel
theorem C_meltDown_d77 : decode (zcode C_meltDown) 77 = .ok (.if_icmp .ge 35, 3) := by decide +kernel
theorem C_meltDown_d86 : decode (zcode C_meltDown) 86 = .ok (.invokevirtual 76, 3) := by decide +kernel
theorem C_meltDown_d95 : decode (zcode C_meltDown) 95 = .ok (.if_icmp .ge 11, 3) := by decide +kernel
theorem C_meltDown_d114 : decode (zcode C_meltDown) 114 = .ok (.ifCond .ge 8, 3) := by decide +kernel
theorem C_meltDown_d133 : decode (zcode C_meltDown) 133 = .ok (.ireturn, 1) := by decide +kernel
theorem C_meltDown_d130 : decode (zcode C_meltDown) 130 = .ok (.invokevirtual 79, 3) := by decide +kernel
theorem C_moveAll_s0 : zseg (zown C_moveAll) (zcode C_moveAll) 0 [(.iconst 0, 1, 0, 0, 0), (.istore 4, 2, 0, 0, 0), (.iconst 0, 1, 0, 0, 0), (.istore 5, 2, 0, 0, 0)] 6 = true := by decide +kernel
theorem C_moveAll_s6 : zseg (zown C_moveAll) (zcode C_moveAll) 6 [(.iload 5, 2, 0, 0, 0), (.aload_n 0, 1, 0, 0, 0), (.getfield 30, 3, 0, 1, 0), (.getfield 82, 3, 0, 4, 8)] 15 = true := by decide +kernel
theorem C_moveAll_s18 : zseg (zown C_moveAll) (zcode C_moveAll) 18 [(.iload 4, 2, 0, 0, 0), (.iconst 5, 1, 5, 0, 0)] 21 = true := by decide +kernel
theorem C_moveAll_s24 : zseg (zown C_moveAll) (zcode C_moveAll) 24 [(.aload_n 0, 1, 0, 0, 0), (.getfield 30, 3, 0, 1, 0), (.getfield 85, 3, 0, 4, 2), (.iload 5, 2, 0, 0, 0), (.iaload, 1, 0, 0, 0), (.iload_n 1, 1, 0, 0, 0)] 35 = true := by decide +kernel
theorem C_moveAll_s38 : zseg (zown C_moveAll) (zcode C_moveAll) 38 [(.aload_n 0, 1, 0, 0, 0), (.getfield 24, 3, 0, 1, 5), (.iload 4, 2, 0, 0, 0), (.iload 5, 2, 0, 0, 0), (.iastore, 1, 0, 0, 0), (.iconst 0, 1, 0, 0, 0), (.istore 6, 2, 0, 0, 0)] 50 = true := by decide +kernel
theorem C_moveAll_s50 : zseg (zown C_moveAll) (zcode C_moveAll) 50 [(.iload 6, 2, 0, 0, 0), (.aload_n 0, 1, 0, 0, 0), (.getfield 30, 3, 0, 1, 0), (.getfield 56, 3, 0, 4, 7)] 59 = true := by decide +kernel
theorem C_moveAll_s62 : zseg (zown C_moveAll) (zcode C_moveAll) 62 [(.aload_n 0, 1, 0, 0, 0), (.getfield 27, 3, 0, 1, 6), (.bipush 6, 2, 6, 0, 0), (.iload 4, 2, 0, 0, 0), (.imul, 1, 0, 0, 0), (.iload 6, 2, 0, 0, 0), (.iadd, 1, 0, 0, 0), (.aload_n 0, 1, 0, 0, 0), (.getfield 30, 3, 0, 1, 0), (.iload 5, 2, 0, 0, 0), (.iload 6, 2, 0, 0, 0), (.aload_n 0, 1, 0, 0, 0), (.getfield 30, 3, 0, 1, 0), (.iload 5, 2, 0, 0, 0), (.iload_n 2, 1, 0, 0, 0)] 89 = true := by decide +kernel
theorem C_moveAll_s92 : zseg (zown C_moveAll) (zcode C_moveAll) 92 [(.iload_n 3, 1, 0, 0, 0)] 93 = true := by decide +kernel
theorem C_moveAll_s96 : zseg (zown C_moveAll) (zcode C_moveAll) 96 [(.iastore, 1, 0, 0, 0), (.iinc 6 1, 3, 1, 0, 0), (.goto (-50), 3, 0, 0, 0)] 50 = true := by decide +kernel
theorem C_moveAll_s103 : zseg (zown C_moveAll) (zcode C_moveAll) 103 [(.iinc 4 1, 3, 1, 0, 0), (.iinc 5 1, 3, 1, 0, 0), (.goto (-103), 3, 0, 0, 0)] 6 = true := by decide +kernel
theorem C_moveAll_s106 : zseg (zown C_moveAll) (zcode C_moveAll) 106 [(.iinc 5 1, 3, 1, 0, 0), (.goto (-103), 3, 0, 0, 0)] 6 = true := by decide +kernel
theorem C_moveAll_s112 : zseg (zown C_moveAll) (zcode C_moveAll) 112 [(.iload 4, 2, 0, 0, 0)] 114 = true := by decide +kernel
theorem C_moveAll_d15 : decode (zcode C_moveAll) 15 = .ok (.if_icmp .ge 97, 3) := by decide +kernel
theorem C_moveAll_d21 : decode (zcode C_moveAll) 21 = .ok (.if_icmp .ge 91, 3) := by decide +kernel
theorem C_moveAll_d35 : decode (zcode C_moveAll) 35 = .ok (.if_icmp .ne 71, 3) := by decide +kernel
theorem C_moveAll_d59 : decode (zcode C_moveAll) 59 = .ok (.if_icmp .ge 44, 3) := by decide +kernel
theorem C_moveAll_d89 : decode (zcode C_moveAll) 89 = .ok (.invokevirtual 52, 3) := by decide +kernel
theorem C_moveAll_d93 : decode (zcode C_moveAll) 93 = .ok (.invokevirtual 60, 3) := by decide +kernel
theorem C_moveAll_d114 : decode (zcode C_moveAll) 114 = .ok (.ireturn, 1) := by decide +kernel
theorem C_offAfter_s0 : zseg (zown C_offAfter) (zcode C_offAfter) 0 [(.aload_n 0, 1, 0, 0, 0), (.getfield 30, 3, 0, 1, 0), (.getfield 56, 3, 0, 4, 7), (.iconst 1, 1, 1, 0, 0), (.isub, 1, 0, 0, 0), (.istore 4, 2, 0, 0, 0), (.iload 4, 2, 0, 0, 0), (.iconst 1, 1, 1, 0, 0)] 14 = true := by decide +kernel
theorem C_offAfter_s17 : zseg (zown C_offAfter) (zcode C_offAfter) 17 [(.bipush 6, 2, 6, 0, 0)] 19 = true := by decide +kernel
theorem C_offAfter_s20 : zseg (zown C_offAfter) (zcode C_offAfter) 20 [(.aload_n 0, 1, 0, 0, 0), (.getfield 9, 3, 0, 1, 1), (.iconst 0, 1, 0, 0, 0), (.aload_n 0, 1, 0, 0, 0), (.getfield 15, 3, 0, 1, 2), (.iconst 0, 1, 0, 0, 0), (.bipush 6, 2, 6, 0, 0)] 32 = true := by decide +kernel
theorem C_offAfter_s35 : zseg (zown C_offAfter) (zcode C_offAfter) 35 [(.iload_n 1, 1, 0, 0, 0), (.istore 5, 2, 0, 0, 0), (.iload_n 2, 1, 0, 0, 0), (.iconst 1, 1, 1, 0, 0), (.isub, 1, 0, 0, 0), (.istore 6, 2, 0, 0, 0)] 43 = true := by decide +kernel
theorem C_offAfter_s43 : zseg (zown C_offAfter) (zcode C_offAfter) 43 [(.iload 6, 2, 0, 0, 0)] 45 = true := by decide +kernel
theorem C_offAfter_s48 : zseg (zown C_offAfter) (zcode C_offAfter) 48 [(.iload 5, 2, 0, 0, 0), (.iload 4, 2, 0, 0, 0), (.irem, 1, 0, 0, 0), (.iload_n 3, 1, 0, 0, 0)] 54 = true := by decide +kernel
theorem C_offAfter_s57 : zseg (zown C_offAfter) (zcode C_offAfter) 57 [(.istore 7, 2, 0, 0, 0), (.aload_n 0, 1, 0, 0, 0), (.getfield 15, 3, 0, 1, 2), (.iload 7, 2, 0, 0, 0), (.dup2, 1, 0, 0, 0), (.iaload, 1, 0, 0, 0), (.aload_n 0, 1, 0, 0, 0), (.getfield 27, 3, 0, 1, 6), (.bipush 6, 2, 6, 0, 0), (.iload 6, 2, 0, 0, 0), (.imul, 1, 0, 0, 0), (.iload 7, 2, 0, 0, 0), (.iadd, 1, 0, 0, 0), (.iaload, 1, 0, 0, 0), (.iadd, 1, 0, 0, 0), (.iastore, 1, 0, 0, 0), (.iload 5, 2, 0, 0, 0), (.iload 4, 2, 0, 0, 0), (.idiv, 1, 0, 0, 0), (.istore 5, 2, 0, 0, 0), (.iinc 6 (-1), 3, (-1), 0, 0), (.goto (-49), 3, 0, 0, 0)] 43 = true := by decide +kernel
theorem C_offAfter_s95 : zseg (zown C_offAfter) (zcode C_offAfter) 95 [(.aload_n 0, 1, 0, 0, 0), (.getfield 15, 3, 0, 1, 2)] 99 = true := by decide +kernel
theorem C_offAfter_d14 : decode (zcode C_offAfter) 14 = .ok (.if_icmp .ge 6, 3) := by decide +kernel
theorem C_offAfter_d19 : decode (zcode C_offAfter) 19 = .ok (.ireturn, 1) := by decide +kernel
theorem C_offAfter_d32 : decode (zcode C_offAfter) 32 = .ok (.invokestatic 88, 3) := by decide +kernel
theorem C_offAfter_d45 : decode (zcode C_offAfter) 45 = .ok (.ifCond .lt 50, 3) := by decide +kernel
theorem C_offAfter_d54 : decode (zcode C_offAfter) 54 = .ok (.invokestatic 94, 3) := by decide +kernel
theorem C_offAfter_d99 : decode (zcode C_offAfter) 99 = .ok (.invokestatic 46, 3) := by decide +kernel
theorem C_offAfter_d102 : decode (zcode C_offAfter) 102 = .ok (.ireturn, 1) := by decide +kernel
theorem C_bellIn_s0 : zseg (zown C_bellIn) (zcode C_bellIn) 0 [(.aload_n 0, 1, 0, 0, 0), (.getfield 30, 3, 0, 1, 0), (.getfield 56, 3, 0, 4, 7), (.iconst 1, 1, 1, 0, 0), (.isub, 1, 0, 0, 0), (.istore 5, 2, 0, 0, 0), (.iload 5, 2, 0, 0, 0), (.iconst 1, 1, 1, 0, 0)] 14 = true := by decide +kernel
theorem C_bellIn_s17 : zseg (zown C_bellIn) (zcode C_bellIn) 17 [(.bipush (-2), 2, (-2), 0, 0)] 19 = true := by decide +kernel
theorem C_bellIn_s20 : zseg (zown C_bellIn) (zcode C_bellIn) 20 [(.iload_n 1, 1, 0, 0, 0), (.istore 6, 2, 0, 0, 0), (.iload_n 2, 1, 0, 0, 0), (.iconst 1, 1, 1, 0, 0), (.isub, 1, 0, 0, 0), (.istore 7, 2, 0, 0, 0)] 28 = true := by decide +kernel
theorem C_bellIn_s28 : zseg (zown C_bellIn) (zcode C_bellIn) 28 [(.iload 7, 2, 0, 0, 0)] 30 = true := by decide +kernel
theorem C_bellIn_s33 : zseg (zown C_bellIn) (zcode C_bellIn) 33 [(.aload_n 0, 1, 0, 0, 0), (.getfield 24, 3, 0, 1, 5), (.iload 7, 2, 0, 0, 0), (.iaload, 1, 0, 0, 0), (.iload 4, 2, 0, 0, 0)] 42 = true := by decide +kernel
theorem C_bellIn_s45 : zseg (zown C_bellIn) (zcode C_bellIn) 45 [(.iload 6, 2, 0, 0, 0), (.iload 5, 2, 0, 0, 0), (.irem, 1, 0, 0, 0), (.iload_n 3, 1, 0, 0, 0)] 51 = true := by decide +kernel
theorem C_bellIn_s55 : zseg (zown C_bellIn) (zcode C_bellIn) 55 [(.iload 6, 2, 0, 0, 0), (.iload 5, 2, 0, 0, 0), (.idiv, 1, 0, 0, 0), (.istore 6, 2, 0, 0, 0), (.iinc 7 (-1), 3, (-1), 0, 0), (.goto (-37), 3, 0, 0, 0)] 28 = true := by decide +kernel
theorem C_bellIn_s68 : zseg (zown C_bellIn) (zcode C_bellIn) 68 [(.bipush (-2), 2, (-2), 0, 0)] 70 = true := by decide +kernel
theorem C_bellIn_d14 : decode (zcode C_bellIn) 14 = .ok (.if_icmp .ge 6, 3) := by decide +kernel
theorem C_bellIn_d19 : decode (zcode C_bellIn) 19 = .ok (.ireturn, 1) := by decide +kernel
theorem C_bellIn_d30 : decode (zcode C_bellIn) 30 = .ok (.ifCond .lt 38, 3) := by decide +kernel
theorem C_bellIn_d42 : decode (zcode C_bellIn) 42 = .ok (.if_icmp .ne 13, 3) := by decide +kernel
theorem C_bellIn_d51 : decode (zcode C_bellIn) 51 = .ok (.invokestatic 94, 3) := by decide +kernel
theorem C_bellIn_d54 : decode (zcode C_bellIn) 54 = .ok (.ireturn, 1) := by decide +kernel
theorem C_bellIn_d70 : decode (zcode C_bellIn) 70 = .ok (.ireturn, 1) := by decide +kernel
theorem C_otherBell_s0 : zseg (zown C_otherBell) (zcode C_otherBell) 0 [(.iload_n 0, 1, 0, 0, 0), (.iload_n 1, 1, 0, 0, 0)] 2 = true := by decide +kernel
theorem C_otherBell_s5 : zseg (zown C_otherBell) (zcode C_otherBell) 5 [(.iload_n 0, 1, 0, 0, 0), (.goto 6, 3, 0, 0, 0)] 12 = true := by decide +kernel
theorem C_otherBell_s9 : zseg (zown C_otherBell) (zcode C_otherBell) 9 [(.iload_n 0, 1, 0, 0, 0), (.iconst 1, 1, 1, 0, 0), (.iadd, 1, 0, 0, 0)] 12 = true := by decide +kernel
theorem C_otherBell_d2 : decode (zcode C_otherBell) 2 = .ok (.if_icmp .ge 7, 3) := by decide +kernel
theorem C_otherBell_d12 : decode (zcode C_otherBell) 12 = .ok (.ireturn, 1) := by decide +kernel
theorem C_bestExchange_s0 : zseg (zown C_bestExchange) (zcode C_bestExchange) 0 [(.aload_n 0, 1, 0, 0, 0), (.getfield 30, 3, 0, 1, 0), (.aload_n 0, 1, 0, 0, 0), (.getfield 9, 3, 0, 1, 1), (.iload_n 1, 1, 0, 0, 0), (.iload_n 2, 1, 0, 0, 0), (.iconst 0, 1, 0, 0, 0)] 11 = true := by decide +kernel
theorem C_bestExchange_s14 : zseg (zown C_bestExchange) (zcode C_bestExchange) 14 [(.aload_n 0, 1, 0, 0, 0), (.getfield 9, 3, 0, 1, 1)] 18 = true := by decide +kernel
theorem C_bestExchange_s21 : zseg (zown C_bestExchange) (zcode C_bestExchange) 21 [(.istore_n 3, 1, 0, 0, 0), (.bipush (-2), 2, (-2), 0, 0), (.istore 4, 2, 0, 0, 0), (.iconst 0, 1, 0, 0, 0), (.istore 5, 2, 0, 0, 0)] 29 = true := by decide +kernel
theorem C_bestExchange_s29 : zseg (zown C_bestExchange) (zcode C_bestExchange) 29 [(.iload 5, 2, 0, 0, 0), (.aload_n 0, 1, 0, 0, 0), (.getfield 30, 3, 0, 1, 0), (.getfield 82, 3, 0, 4, 8)] 38 = true := by decide +kernel
theorem C_bestExchange_s41 : zseg (zown C_bestExchange) (zcode C_bestExchange) 41 [(.iload 5, 2, 0, 0, 0), (.iconst 1, 1, 1, 0, 0), (.iadd, 1, 0, 0, 0), (.istore 6, 2, 0, 0, 0)] 47 = true := by decide +kernel
theorem C_bestExchange_s47 : zseg (zown C_bestExchange) (zcode C_bestExchange) 47 [(.iload 6, 2, 0, 0, 0), (.aload_n 0, 1, 0, 0, 0), (.getfield 30, 3, 0, 1, 0), (.getfield 82, 3, 0, 4, 8)] 56 = true := by decide +kernel
theorem C_bestExchange_s59 : zseg (zown C_bestExchange) (zcode C_bestExchange) 59 [(.aload_n 0, 1, 0, 0, 0), (.getfield 30, 3, 0, 1, 0), (.getfield 85, 3, 0, 4, 2), (.iload 5, 2, 0, 0, 0), (.iaload, 1, 0, 0, 0), (.aload_n 0, 1, 0, 0, 0), (.getfield 30, 3, 0, 1, 0), (.getfield 85, 3, 0, 4, 2), (.iload 6, 2, 0, 0, 0), (.iaload, 1, 0, 0, 0)] 79 = true := by decide +kernel
theorem C_bestExchange_s82 : zseg (zown C_bestExchange) (zcode C_bestExchange) 82 [(.goto 82, 3, 0, 0, 0), (.iinc 6 1, 3, 1, 0, 0), (.goto (-120), 3, 0, 0, 0)] 47 = true := by decide +kernel
theorem C_bestExchange_s85 : zseg (zown C_bestExchange) (zcode C_bestExchange) 85 [(.aload_n 0, 1, 0, 0, 0), (.getfield 9, 3, 0, 1, 1), (.iconst 0, 1, 0, 0, 0), (.aload_n 0, 1, 0, 0, 0), (.getfield 15, 3, 0, 1, 2), (.iconst 0, 1, 0, 0, 0), (.bipush 6, 2, 6, 0, 0)] 97 = true := by decide +kernel
theorem C_bestExchange_s100 : zseg (zown C_bestExchange) (zcode C_bestExchange) 100 [(.aload_n 0, 1, 0, 0, 0), (.iload 5, 2, 0, 0, 0), (.aload_n 0, 1, 0, 0, 0), (.getfield 30, 3, 0, 1, 0), (.getfield 85, 3, 0, 4, 2), (.iload 6, 2, 0, 0, 0), (.iaload, 1, 0, 0, 0), (.iload_n 1, 1, 0, 0, 0), (.iload_n 2, 1, 0, 0, 0)] 115 = true := by decide +kernel
theorem C_bestExchange_s118 : zseg (zown C_bestExchange) (zcode C_bestExchange) 118 [(.aload_n 0, 1, 0, 0, 0), (.iload 6, 2, 0, 0, 0), (.aload_n 0, 1, 0, 0, 0), (.getfield 30, 3, 0, 1, 0), (.getfield 85, 3, 0, 4, 2), (.iload 5, 2, 0, 0, 0), (.iaload, 1, 0, 0, 0), (.iload_n 1, 1, 0, 0, 0), (.iload_n 2, 1, 0, 0, 0)] 133 = true := by decide +kernel
theorem C_bestExchange_s136 : zseg (zown C_bestExchange) (zcode C_bestExchange) 136 [(.aload_n 0, 1, 0, 0, 0), (.getfield 15, 3, 0, 1, 2)] 140 = true := by decide +kernel
theorem C_bestExchange_s143 : zseg (zown C_bestExchange) (zcode C_bestExchange) 143 [(.istore 7, 2, 0, 0, 0), (.iload 7, 2, 0, 0, 0), (.iload_n 3, 1, 0, 0, 0)] 148 = true := by decide +kernel
theorem C_bestExchange_s151 : zseg (zown C_bestExchange) (zcode C_bestExchange) 151 [(.iload 7, 2, 0, 0, 0), (.istore_n 3, 1, 0, 0, 0), (.bipush 20, 2, 20, 0, 0), (.iload 5, 2, 0, 0, 0), (.imul, 1, 0, 0, 0), (.iload 6, 2, 0, 0, 0), (.iadd, 1, 0, 0, 0), (.istore 4, 2, 0, 0, 0), (.iinc 6 1, 3, 1, 0, 0), (.goto (-120), 3, 0, 0, 0)] 47 = true := by decide +kernel
theorem C_bestExchange_s164 : zseg (zown C_bestExchange) (zcode C_bestExchange) 164 [(.iinc 6 1, 3, 1, 0, 0), (.goto (-120), 3, 0, 0, 0)] 47 = true := by decide +kernel
theorem C_bestExchange_s170 : zseg (zown C_bestExchange) (zcode C_bestExchange) 170 [(.iinc 5 1, 3, 1, 0, 0), (.goto (-144), 3, 0, 0, 0)] 29 = true := by decide +kernel
theorem C_bestExchange_s176 : zseg (zown C_bestExchange) (zcode C_bestExchange) 176 [(.iload 4, 2, 0, 0, 0)] 178 = true := by decide +kernel
theorem C_bestExchange_d11 : decode (zcode C_bestExchange) 11 = .ok (.invokevirtual 40, 3) := by decide +kernel
theorem C_bestExchange_d18 : decode (zcode C_bestExchange) 18 = .ok (.invokestatic 46, 3) := by decide +kernel
theorem C_bestExchange_d38 : decode (zcode C_bestExchange) 38 = .ok (.if_icmp .ge 138, 3) := by decide +kernel
theorem C_bestExchange_d56 : decode (zcode C_bestExchange) 56 = .ok (.if_icmp .ge 114, 3) := by decide +kernel
theorem C_bestExchange_d79 : decode (zcode C_bestExchange) 79 = .ok (.if_icmp .ne 6, 3) := by decide +kernel
theorem C_bestExchange_d97 : decode (zcode C_bestExchange) 97 = .ok (.invokestatic 88, 3) := by decide +kernel
theorem C_bestExchange_d115 : decode (zcode C_bestExchange) 115 = .ok (.invokevirtual 97, 3) := by decide +kernel
theorem C_bestExchange_d133 : decode (zcode C_bestExchange) 133 = .ok (.invokevirtual 97, 3) := by decide +kernel
theorem C_bestExchange_d140 : decode (zcode C_bestExchange) 140 = .ok (.invokestatic 46, 3) := by decide +kernel
theorem C_bestExchange_d148 : decode (zcode C_bestExchange) 148 = .ok (.if_icmp .ge 16, 3) := by decide +kernel
theorem C_bestExchange_d178 : decode (zcode C_bestExchange) 178 = .ok (.ireturn, 1) := by decide +kernel
theorem C_move_s0 : zseg (zown C_move) (zcode C_move) 0 [(.aload_n 0, 1, 0, 0, 0), (.getfield 30, 3, 0, 1, 0), (.iload_n 1, 1, 0, 0, 0), (.iload_n 3, 1, 0, 0, 0)] 6 = true := by decide +kernel
theorem C_move_s9 : zseg (zown C_move) (zcode C_move) 9 [(.istore 5, 2, 0, 0, 0), (.aload_n 0, 1, 0, 0, 0), (.getfield 30, 3, 0, 1, 0), (.getfield 85, 3, 0, 4, 2), (.iload_n 1, 1, 0, 0, 0), (.iaload, 1, 0, 0, 0), (.istore 6, 2, 0, 0, 0), (.aload_n 0, 1, 0, 0, 0), (.getfield 15, 3, 0, 1, 2), (.iload 6, 2, 0, 0, 0), (.dup2, 1, 0, 0, 0), (.iaload, 1, 0, 0, 0), (.aload_n 0, 1, 0, 0, 0), (.getfield 30, 3, 0, 1, 0), (.iload_n 1, 1, 0, 0, 0), (.iload 6, 2, 0, 0, 0), (.iload 5, 2, 0, 0, 0), (.iload 4, 2, 0, 0, 0)] 41 = true := by decide +kernel
theorem C_move_s44 : zseg (zown C_move) (zcode C_move) 44 [(.isub, 1, 0, 0, 0), (.iastore, 1, 0, 0, 0), (.aload_n 0, 1, 0, 0, 0), (.getfield 15, 3, 0, 1, 2), (.iload_n 2, 1, 0, 0, 0), (.dup2, 1, 0, 0, 0), (.iaload, 1, 0, 0, 0), (.aload_n 0, 1, 0, 0, 0), (.getfield 30, 3, 0, 1, 0), (.iload_n 1, 1, 0, 0, 0), (.iload_n 2, 1, 0, 0, 0), (.iload 5, 2, 0, 0, 0), (.iload 4, 2, 0, 0, 0)] 63 = true := by decide +kernel
theorem C_move_s66 : zseg (zown C_move) (zcode C_move) 66 [(.iadd, 1, 0, 0, 0), (.iastore, 1, 0, 0, 0)] 68 = true := by decide +kernel
theorem C_move_d6 : decode (zcode C_move) 6 = .ok (.invokevirtual 52, 3) := by decide +kernel
theorem C_move_d41 : decode (zcode C_move) 41 = .ok (.invokevirtual 60, 3) := by decide +kernel
theorem C_move_d63 : decode (zcode C_move) 63 = .ok (.invokevirtual 60, 3) := by decide +kernel
theorem C_move_d68 : decode (zcode C_move) 68 = .ok (.return_, 1) := by decide +kernel
theorem C_drawYears_s0 : zseg (zown C_drawYears) (zcode C_drawYears) 0 [(.iload_n 1, 1, 0, 0, 0), (.istore 6, 2, 0, 0, 0), (.iload 4, 2, 0, 0, 0), (.iload_n 3, 1, 0, 0, 0), (.iadd, 1, 0, 0, 0), (.iconst 1, 1, 1, 0, 0), (.isub, 1, 0, 0, 0), (.istore 7, 2, 0, 0, 0), (.iconst 0, 1, 0, 0, 0), (.istore 8, 2, 0, 0, 0), (.iconst 0, 1, 0, 0, 0), (.istore 9, 2, 0, 0, 0)] 17 = true := by decide +kernel
theorem C_drawYears_s17 : zseg (zown C_drawYears) (zcode C_drawYears) 17 [(.iload 9, 2, 0, 0, 0), (.iload_n 2, 1, 0, 0, 0)] 20 = true := by decide +kernel
theorem C_drawYears_s23 : zseg (zown C_drawYears) (zcode C_drawYears) 23 [(.aload_n 0, 1, 0, 0, 0), (.getfield 21, 3, 0, 1, 4), (.sipush 999, 3, 999, 0, 0)] 30 = true := by decide +kernel
theorem C_drawYears_s33 : zseg (zown C_drawYears) (zcode C_drawYears) 33 [(.iload 4, 2, 0, 0, 0), (.istore 10, 2, 0, 0, 0)] 37 = true := by decide +kernel
theorem C_drawYears_s37 : zseg (zown C_drawYears) (zcode C_drawYears) 37 [(.iload 10, 2, 0, 0, 0), (.iload 7, 2, 0, 0, 0)] 41 = true := by decide +kernel
theorem C_drawYears_s44 : zseg (zown C_drawYears) (zcode C_drawYears) 44 [(.iconst 0, 1, 0, 0, 0), (.istore 11, 2, 0, 0, 0)] 47 = true := by decide +kernel
theorem C_drawYears_s47 : zseg (zown C_drawYears) (zcode C_drawYears) 47 [(.iload 11, 2, 0, 0, 0), (.aload_n 0, 1, 0, 0, 0), (.getfield 30, 3, 0, 1, 0), (.getfield 82, 3, 0, 4, 8)] 56 = true := by decide +kernel
theorem C_drawYears_s59 : zseg (zown C_drawYears) (zcode C_drawYears) 59 [(.iload 6, 2, 0, 0, 0), (.ldc 101, 2, 1103515245, 0, 0), (.imul, 1, 0, 0, 0), (.sipush 12345, 3, 12345, 0, 0), (.iadd, 1, 0, 0, 0), (.istore 6, 2, 0, 0, 0), (.iload 6, 2, 0, 0, 0), (.bipush 8, 2, 8, 0, 0), (.iushr, 1, 0, 0, 0), (.bipush 12, 2, 12, 0, 0), (.irem, 1, 0, 0, 0), (.aload_n 0, 1, 0, 0, 0), (.getfield 30, 3, 0, 1, 0), (.getfield 102, 3, 0, 4, 9)] 85 = true := by decide +kernel
theorem C_drawYears_s88 : zseg (zown C_drawYears) (zcode C_drawYears) 88 [(.aload_n 0, 1, 0, 0, 0), (.getfield 21, 3, 0, 1, 4), (.iload 11, 2, 0, 0, 0), (.aload_n 0, 1, 0, 0, 0), (.getfield 21, 3, 0, 1, 4), (.iload 11, 2, 0, 0, 0), (.iaload, 1, 0, 0, 0), (.sipush 999, 3, 999, 0, 0)] 104 = true := by decide +kernel
theorem C_drawYears_s107 : zseg (zown C_drawYears) (zcode C_drawYears) 107 [(.iload 10, 2, 0, 0, 0), (.goto 6, 3, 0, 0, 0), (.iastore, 1, 0, 0, 0), (.iinc 11 1, 3, 1, 0, 0), (.goto (-72), 3, 0, 0, 0)] 47 = true := by decide +kernel
theorem C_drawYears_s112 : zseg (zown C_drawYears) (zcode C_drawYears) 112 [(.sipush 999, 3, 999, 0, 0), (.iastore, 1, 0, 0, 0), (.iinc 11 1, 3, 1, 0, 0), (.goto (-72), 3, 0, 0, 0)] 47 = true := by decide +kernel
theorem C_drawYears_s116 : zseg (zown C_drawYears) (zcode C_drawYears) 116 [(.iinc 11 1, 3, 1, 0, 0), (.goto (-72), 3, 0, 0, 0)] 47 = true := by decide +kernel
theorem C_drawYears_s122 : zseg (zown C_drawYears) (zcode C_drawYears) 122 [(.iinc 10 1, 3, 1, 0, 0), (.goto (-88), 3, 0, 0, 0)] 37 = true := by decide +kernel
theorem C_drawYears_s128 : zseg (zown C_drawYears) (zcode C_drawYears) 128 [(.iload 8, 2, 0, 0, 0), (.iload 5, 2, 0, 0, 0)] 132 = true := by decide +kernel
theorem C_drawYears_s135 : zseg (zown C_drawYears) (zcode C_drawYears) 135 [(.aload_n 0, 1, 0, 0, 0), (.iload 7, 2, 0, 0, 0)] 138 = true := by decide +kernel
theorem C_drawYears_s141 : zseg (zown C_drawYears) (zcode C_drawYears) 141 [(.goto 7, 3, 0, 0, 0), (.iadd, 1, 0, 0, 0), (.istore 8, 2, 0, 0, 0), (.iinc 9 1, 3, 1, 0, 0), (.goto (-137), 3, 0, 0, 0)] 17 = true := by decide +kernel
theorem C_drawYears_s144 : zseg (zown C_drawYears) (zcode C_drawYears) 144 [(.aload_n 0, 1, 0, 0, 0)] 145 = true := by decide +kernel
theorem C_drawYears_s148 : zseg (zown C_drawYears) (zcode C_drawYears) 148 [(.iadd, 1, 0, 0, 0), (.istore 8, 2, 0, 0, 0), (.iinc 9 1, 3, 1, 0, 0), (.goto (-137), 3, 0, 0, 0)] 17 = true := by decide +kernel
theorem C_drawYears_s157 : zseg (zown C_drawYears) (zcode C_drawYears) 157 [(.iload 8, 2, 0, 0, 0)] 159 = true := by decide +kernel
theorem C_drawYears_d20 : decode (zcode C_drawYears) 20 = .ok (.if_icmp .ge 137, 3) := by decide +kernel
theorem C_drawYears_d30 : decode (zcode C_drawYears) 30 = .ok (.invokestatic 34, 3) := by decide +kernel
theorem C_drawYears_d41 : decode (zcode C_drawYears) 41 = .ok (.if_icmp .gt 87, 3) := by decide +kernel
theorem C_drawYears_d56 : decode (zcode C_drawYears) 56 = .ok (.if_icmp .ge 66, 3) := by decide +kernel
theorem C_drawYears_d85 : decode (zcode C_drawYears) 85 = .ok (.if_icmp .ge 31, 3) := by decide +kernel
theorem C_drawYears_d104 : decode (zcode C_drawYears) 104 = .ok (.if_icmp .ne 8, 3) := by decide +kernel
theorem C_drawYears_d132 : decode (zcode C_drawYears) 132 = .ok (.ifCond .ne 12, 3) := by decide +kernel
theorem C_drawYears_d138 : decode (zcode C_drawYears) 138 = .ok (.invokevirtual 105, 3) := by decide +kernel
theorem C_drawYears_d145 : decode (zcode C_drawYears) 145 = .ok (.invokevirtual 108, 3) := by decide +kernel
theorem C_drawYears_d159 : decode (zcode C_drawYears) 159 = .ok (.ireturn, 1) := by decide +kernel
theorem C_drawnOff_s0 : zseg (zown C_drawnOff) (zcode C_drawnOff) 0 [(.aload_n 0, 1, 0, 0, 0), (.getfield 15, 3, 0, 1, 2), (.iconst 0, 1, 0, 0, 0)] 5 = true := by decide +kernel
theorem C_drawnOff_s8 : zseg (zown C_drawnOff) (zcode C_drawnOff) 8 [(.iconst 0, 1, 0, 0, 0), (.istore_n 2, 1, 0, 0, 0)] 10 = true := by decide +kernel
theorem C_drawnOff_s10 : zseg (zown C_drawnOff) (zcode C_drawnOff) 10 [(.iload_n 2, 1, 0, 0, 0), (.aload_n 0, 1, 0, 0, 0), (.getfield 30, 3, 0, 1, 0), (.getfield 82, 3, 0, 4, 8)] 18 = true := by decide +kernel
theorem C_drawnOff_s21 : zseg (zown C_drawnOff) (zcode C_drawnOff) 21 [(.aload_n 0, 1, 0, 0, 0), (.getfield 30, 3, 0, 1, 0), (.getfield 85, 3, 0, 4, 2), (.iload_n 2, 1, 0, 0, 0), (.iaload, 1, 0, 0, 0), (.istore_n 3, 1, 0, 0, 0), (.aload_n 0, 1, 0, 0, 0), (.getfield 21, 3, 0, 1, 4), (.iload_n 2, 1, 0, 0, 0), (.iaload, 1, 0, 0, 0), (.sipush 999, 3, 999, 0, 0)] 40 = true := by decide +kernel
theorem C_drawnOff_s43 : zseg (zown C_drawnOff) (zcode C_drawnOff) 43 [(.iconst (-1), 1, (-1), 0, 0), (.goto 11, 3, 0, 0, 0), (.istore 4, 2, 0, 0, 0), (.aload_n 0, 1, 0, 0, 0), (.getfield 15, 3, 0, 1, 2), (.iload_n 3, 1, 0, 0, 0), (.dup2, 1, 0, 0, 0), (.iaload, 1, 0, 0, 0), (.aload_n 0, 1, 0, 0, 0), (.getfield 30, 3, 0, 1, 0), (.iload_n 2, 1, 0, 0, 0), (.iload_n 3, 1, 0, 0, 0), (.iload 4, 2, 0, 0, 0), (.bipush 12, 2, 12, 0, 0)] 74 = true := by decide +kernel
theorem C_drawnOff_s47 : zseg (zown C_drawnOff) (zcode C_drawnOff) 47 [(.iload_n 1, 1, 0, 0, 0), (.aload_n 0, 1, 0, 0, 0), (.getfield 21, 3, 0, 1, 4), (.iload_n 2, 1, 0, 0, 0), (.iaload, 1, 0, 0, 0), (.isub, 1, 0, 0, 0), (.istore 4, 2, 0, 0, 0), (.aload_n 0, 1, 0, 0, 0), (.getfield 15, 3, 0, 1, 2), (.iload_n 3, 1, 0, 0, 0), (.dup2, 1, 0, 0, 0), (.iaload, 1, 0, 0, 0), (.aload_n 0, 1, 0, 0, 0), (.getfield 30, 3, 0, 1, 0), (.iload_n 2, 1, 0, 0, 0), (.iload_n 3, 1, 0, 0, 0), (.iload 4, 2, 0, 0, 0), (.bipush 12, 2, 12, 0, 0)] 74 = true := by decide +kernel
theorem C_drawnOff_s77 : zseg (zown C_drawnOff) (zcode C_drawnOff) 77 [(.iadd, 1, 0, 0, 0), (.iastore, 1, 0, 0, 0), (.iinc 2 1, 3, 1, 0, 0), (.goto (-72), 3, 0, 0, 0)] 10 = true := by decide +kernel
theorem C_drawnOff_s85 : zseg (zown C_drawnOff) (zcode C_drawnOff) 85 [(.aload_n 0, 1, 0, 0, 0), (.getfield 15, 3, 0, 1, 2)] 89 = true := by decide +kernel
theorem C_drawnOff_d5 : decode (zcode C_drawnOff) 5 = .ok (.invokestatic 34, 3) := by decide +kernel
theorem C_drawnOff_d18 : decode (zcode C_drawnOff) 18 = .ok (.if_icmp .ge 67, 3) := by decide +kernel
theorem C_drawnOff_d40 : decode (zcode C_drawnOff) 40 = .ok (.if_icmp .ne 7, 3) := by decide +kernel
theorem C_drawnOff_d74 : decode (zcode C_drawnOff) 74 = .ok (.invokevirtual 60, 3) := by decide +kernel
theorem C_drawnOff_d89 : decode (zcode C_drawnOff) 89 = .ok (.invokestatic 46, 3) := by decide +kernel
theorem C_drawnOff_d92 : decode (zcode C_drawnOff) 92 = .ok (.ireturn, 1) := by decide +kernel
theorem C_drawnBroken_s0 : zseg (zown C_drawnBroken) (zcode C_drawnBroken) 0 [(.iconst 0, 1, 0, 0, 0), (.istore_n 1, 1, 0, 0, 0), (.iconst 0, 1, 0, 0, 0), (.istore_n 2, 1, 0, 0, 0)] 4 = true := by decide +kernel
theorem C_drawnBroken_s4 : zseg (zown C_drawnBroken) (zcode C_drawnBroken) 4 [(.iload_n 2, 1, 0, 0, 0), (.aload_n 0, 1, 0, 0, 0), (.getfield 30, 3, 0, 1, 0), (.getfield 82, 3, 0, 4, 8)] 12 = true := by decide +kernel
theorem C_drawnBroken_s15 : zseg (zown C_drawnBroken) (zcode C_drawnBroken) 15 [(.iload_n 1, 1, 0, 0, 0), (.aload_n 0, 1, 0, 0, 0), (.getfield 21, 3, 0, 1, 4), (.iload_n 2, 1, 0, 0, 0), (.iaload, 1, 0, 0, 0), (.sipush 999, 3, 999, 0, 0)] 25 = true := by decide +kernel
theorem C_drawnBroken_s28 : zseg (zown C_drawnBroken) (zcode C_drawnBroken) 28 [(.iconst 1, 1, 1, 0, 0), (.goto 4, 3, 0, 0, 0)] 33 = true := by decide +kernel
theorem C_drawnBroken_s32 : zseg (zown C_drawnBroken) (zcode C_drawnBroken) 32 [(.iconst 0, 1, 0, 0, 0)] 33 = true := by decide +kernel
theorem C_drawnBroken_s36 : zseg (zown C_drawnBroken) (zcode C_drawnBroken) 36 [(.iadd, 1, 0, 0, 0), (.istore_n 1, 1, 0, 0, 0), (.iinc 2 1, 3, 1, 0, 0), (.goto (-37), 3, 0, 0, 0)] 4 = true := by decide +kernel
theorem C_drawnBroken_s44 : zseg (zown C_drawnBroken) (zcode C_drawnBroken) 44 [(.iload_n 1, 1, 0, 0, 0)] 45 = true := by decide +kernel
theorem C_drawnBroken_d12 : decode (zcode C_drawnBroken) 12 = .ok (.if_icmp .ge 32, 3) := by decide +kernel
theorem C_drawnBroken_d25 : decode (zcode C_drawnBroken) 25 = .ok (.if_icmp .eq 7, 3) := by decide +kernel
theorem C_drawnBroken_d33 : decode (zcode C_drawnBroken) 33 = .ok (.invokestatic 64, 3) := by decide +kernel
theorem C_drawnBroken_d45 : decode (zcode C_drawnBroken) 45 = .ok (.ireturn, 1) := by decide +kernel
theorem H_add_s0 : zseg (zown H_add) (zcode H_add) 0 [(.aload_n 0, 1, 0, 0, 0), (.getfield 22, 3, 0, 2, 4), (.bipush 40, 2, 40, 0, 0)] 6 = true := by decide +kernel
theorem H_add_s9 : zseg (zown H_add) (zcode H_add) 9 [(.aload_n 0, 1, 0, 0, 0)] 10 = true := by decide +kernel
theorem H_add_s13 : zseg (zown H_add) (zcode H_add) 13 [(.aload_n 0, 1, 0, 0, 0), (.getfield 9, 3, 0, 2, 0), (.aload_n 0, 1, 0, 0, 0), (.getfield 22, 3, 0, 2, 4), (.iload_n 1, 1, 0, 0, 0), (.iastore, 1, 0, 0, 0), (.aload_n 0, 1, 0, 0, 0), (.getfield 13, 3, 0, 2, 1), (.aload_n 0, 1, 0, 0, 0), (.getfield 22, 3, 0, 2, 4), (.iload_n 2, 1, 0, 0, 0), (.iastore, 1, 0, 0, 0), (.aload_n 0, 1, 0, 0, 0), (.getfield 16, 3, 0, 2, 2), (.aload_n 0, 1, 0, 0, 0), (.getfield 22, 3, 0, 2, 4), (.iload_n 3, 1, 0, 0, 0), (.iastore, 1, 0, 0, 0), (.aload_n 0, 1, 0, 0, 0), (.getfield 19, 3, 0, 2, 3), (.aload_n 0, 1, 0, 0, 0), (.getfield 22, 3, 0, 2, 4), (.iload 4, 2, 0, 0, 0), (.iastore, 1, 0, 0, 0), (.aload_n 0, 1, 0, 0, 0), (.dup, 1, 0, 0, 0), (.getfield 22, 3, 0, 2, 4), (.iconst 1, 1, 1, 0, 0), (.iadd, 1, 0, 0, 0), (.putfield 22, 3, 0, 2, 4), (.aload_n 0, 1, 0, 0, 0), (.aload_n 0, 1, 0, 0, 0), (.getfield 22, 3, 0, 2, 4), (.putfield 29, 3, 0, 2, 5)] 72 = true := by decide +kernel
theorem H_add_d6 : decode (zcode H_add) 6 = .ok (.if_icmp .lt 7, 3) := by decide +kernel
theorem H_add_d10 : decode (zcode H_add) 10 = .ok (.invokevirtual 26, 3) := by decide +kernel
theorem H_add_d72 : decode (zcode H_add) 72 = .ok (.return_, 1) := by decide +kernel
theorem H_forgetFirst_s0 : zseg (zown H_forgetFirst) (zcode H_forgetFirst) 0 [(.aload_n 0, 1, 0, 0, 0), (.getfield 9, 3, 0, 2, 0), (.iconst 1, 1, 1, 0, 0), (.aload_n 0, 1, 0, 0, 0), (.getfield 9, 3, 0, 2, 0), (.iconst 0, 1, 0, 0, 0), (.bipush 39, 2, 39, 0, 0)] 12 = true := by decide +kernel
theorem H_forgetFirst_s15 : zseg (zown H_forgetFirst) (zcode H_forgetFirst) 15 [(.aload_n 0, 1, 0, 0, 0), (.getfield 13, 3, 0, 2, 1), (.iconst 1, 1, 1, 0, 0), (.aload_n 0, 1, 0, 0, 0), (.getfield 13, 3, 0, 2, 1), (.iconst 0, 1, 0, 0, 0), (.bipush 39, 2, 39, 0, 0)] 27 = true := by decide +kernel
theorem H_forgetFirst_s30 : zseg (zown H_forgetFirst) (zcode H_forgetFirst) 30 [(.aload_n 0, 1, 0, 0, 0), (.getfield 16, 3, 0, 2, 2), (.iconst 1, 1, 1, 0, 0), (.aload_n 0, 1, 0, 0, 0), (.getfield 16, 3, 0, 2, 2), (.iconst 0, 1, 0, 0, 0), (.bipush 39, 2, 39, 0, 0)] 42 = true := by decide +kernel
theorem H_forgetFirst_s45 : zseg (zown H_forgetFirst) (zcode H_forgetFirst) 45 [(.aload_n 0, 1, 0, 0, 0), (.getfield 19, 3, 0, 2, 3), (.iconst 1, 1, 1, 0, 0), (.aload_n 0, 1, 0, 0, 0), (.getfield 19, 3, 0, 2, 3), (.iconst 0, 1, 0, 0, 0), (.bipush 39, 2, 39, 0, 0)] 57 = true := by decide +kernel
theorem H_forgetFirst_s60 : zseg (zown H_forgetFirst) (zcode H_forgetFirst) 60 [(.aload_n 0, 1, 0, 0, 0), (.bipush 39, 2, 39, 0, 0), (.putfield 22, 3, 0, 2, 4)] 66 = true := by decide +kernel
theorem H_forgetFirst_d12 : decode (zcode H_forgetFirst) 12 = .ok (.invokestatic 32, 3) := by decide +kernel
theorem H_forgetFirst_d27 : decode (zcode H_forgetFirst) 27 = .ok (.invokestatic 32, 3) := by decide +kernel
theorem H_forgetFirst_d42 : decode (zcode H_forgetFirst) 42 = .ok (.invokestatic 32, 3) := by decide +kernel
theorem H_forgetFirst_d57 : decode (zcode H_forgetFirst) 57 = .ok (.invokestatic 32, 3) := by decide +kernel
theorem H_forgetFirst_d66 : decode (zcode H_forgetFirst) 66 = .ok (.return_, 1) := by decide +kernel
theorem H_stepBack_s0 : zseg (zown H_stepBack) (zcode H_stepBack) 0 [(.aload_n 0, 1, 0, 0, 0), (.getfield 22, 3, 0, 2, 4)] 4 = true := by decide +kernel
theorem H_stepBack_s7 : zseg (zown H_stepBack) (zcode H_stepBack) 7 [(.aload_n 0, 1, 0, 0, 0), (.dup, 1, 0, 0, 0), (.getfield 22, 3, 0, 2, 4), (.iconst 1, 1, 1, 0, 0), (.isub, 1, 0, 0, 0), (.putfield 22, 3, 0, 2, 4), (.aload_n 1, 1, 0, 0, 0), (.aload_n 0, 1, 0, 0, 0), (.getfield 9, 3, 0, 2, 0), (.aload_n 0, 1, 0, 0, 0), (.getfield 22, 3, 0, 2, 4), (.iaload, 1, 0, 0, 0), (.aload_n 0, 1, 0, 0, 0), (.getfield 13, 3, 0, 2, 1), (.aload_n 0, 1, 0, 0, 0), (.getfield 22, 3, 0, 2, 4), (.iaload, 1, 0, 0, 0), (.aload_n 0, 1, 0, 0, 0), (.getfield 16, 3, 0, 2, 2), (.aload_n 0, 1, 0, 0, 0), (.getfield 22, 3, 0, 2, 4), (.iaload, 1, 0, 0, 0)] 45 = true := by decide +kernel
theorem H_stepBack_d4 : decode (zcode H_stepBack) 4 = .ok (.ifCond .le 44, 3) := by decide +kernel
theorem H_stepBack_d45 : decode (zcode H_stepBack) 45 = .ok (.invokevirtual 38, 3) := by decide +kernel
theorem H_stepBack_d48 : decode (zcode H_stepBack) 48 = .ok (.return_, 1) := by decide +kernel
theorem H_stepOn_s0 : zseg (zown H_stepOn) (zcode H_stepOn) 0 [(.aload_n 0, 1, 0, 0, 0), (.getfield 22, 3, 0, 2, 4), (.aload_n 0, 1, 0, 0, 0), (.getfield 29, 3, 0, 2, 5)] 8 = true := by decide +kernel
theorem H_stepOn_s11 : zseg (zown H_stepOn) (zcode H_stepOn) 11 [(.aload_n 1, 1, 0, 0, 0), (.aload_n 0, 1, 0, 0, 0), (.getfield 9, 3, 0, 2, 0), (.aload_n 0, 1, 0, 0, 0), (.getfield 22, 3, 0, 2, 4), (.iaload, 1, 0, 0, 0), (.aload_n 0, 1, 0, 0, 0), (.getfield 13, 3, 0, 2, 1), (.aload_n 0, 1, 0, 0, 0), (.getfield 22, 3, 0, 2, 4), (.iaload, 1, 0, 0, 0), (.aload_n 0, 1, 0, 0, 0), (.getfield 19, 3, 0, 2, 3), (.aload_n 0, 1, 0, 0, 0), (.getfield 22, 3, 0, 2, 4), (.iaload, 1, 0, 0, 0)] 39 = true := by decide +kernel
theorem H_stepOn_s42 : zseg (zown H_stepOn) (zcode H_stepOn) 42 [(.aload_n 0, 1, 0, 0, 0), (.dup, 1, 0, 0, 0), (.getfield 22, 3, 0, 2, 4), (.iconst 1, 1, 1, 0, 0), (.iadd, 1, 0, 0, 0), (.putfield 22, 3, 0, 2, 4)] 52 = true := by decide +kernel
theorem H_stepOn_d8 : decode (zcode H_stepOn) 8 = .ok (.if_icmp .ge 44, 3) := by decide +kernel
theorem H_stepOn_d39 : decode (zcode H_stepOn) 39 = .ok (.invokevirtual 38, 3) := by decide +kernel
theorem H_stepOn_d52 : decode (zcode H_stepOn) 52 = .ok (.return_, 1) := by decide +kernel
theorem D_breakVow_s0 : zseg (zown D_breakVow) (zcode D_breakVow) 0 [(.aload_n 0, 1, 0, 0, 0), (.getfield 24, 3, 0, 3, 0), (.iload_n 1, 1, 0, 0, 0), (.aload_n 0, 1, 0, 0, 0), (.getfield 28, 3, 0, 3, 2)] 9 = true := by decide +kernel
theorem D_breakVow_s15 : zseg (zown D_breakVow) (zcode D_breakVow) 15 [(.iconst 0, 1, 0, 0, 0)] 16 = true := by decide +kernel
theorem D_breakVow_s17 : zseg (zown D_breakVow) (zcode D_breakVow) 17 [(.aload_n 0, 1, 0, 0, 0), (.getfield 24, 3, 0, 3, 0), (.getfield 38, 3, 0, 4, 5), (.iload_n 1, 1, 0, 0, 0), (.aload_n 0, 1, 0, 0, 0), (.getfield 28, 3, 0, 3, 2), (.iastore, 1, 0, 0, 0), (.aload_n 0, 1, 0, 0, 0), (.getfield 24, 3, 0, 3, 0), (.getfield 41, 3, 0, 4, 6), (.iload_n 1, 1, 0, 0, 0), (.sipush 999, 3, 999, 0, 0), (.iastore, 1, 0, 0, 0), (.aload_n 0, 1, 0, 0, 0), (.getfield 11, 3, 0, 3, 1), (.iconst 0, 1, 0, 0, 0), (.dup2, 1, 0, 0, 0), (.iaload, 1, 0, 0, 0), (.iconst 1, 1, 1, 0, 0), (.iadd, 1, 0, 0, 0), (.iastore, 1, 0, 0, 0), (.iconst 1, 1, 1, 0, 0)] 53 = true := by decide +kernel
theorem D_breakVow_d9 : decode (zcode D_breakVow) 9 = .ok (.invokevirtual 32, 3) := by decide +kernel
theorem D_breakVow_d12 : decode (zcode D_breakVow) 12 = .ok (.ifCond .ne 5, 3) := by decide +kernel
theorem D_breakVow_d16 : decode (zcode D_breakVow) 16 = .ok (.ireturn, 1) := by decide +kernel
theorem D_breakVow_d53 : decode (zcode D_breakVow) 53 = .ok (.ireturn, 1) := by decide +kernel
theorem D_keepAgain_s0 : zseg (zown D_keepAgain) (zcode D_keepAgain) 0 [(.aload_n 0, 1, 0, 0, 0), (.getfield 24, 3, 0, 3, 0), (.iload_n 1, 1, 0, 0, 0), (.aload_n 0, 1, 0, 0, 0), (.getfield 28, 3, 0, 3, 2)] 9 = true := by decide +kernel
theorem D_keepAgain_s15 : zseg (zown D_keepAgain) (zcode D_keepAgain) 15 [(.iconst 0, 1, 0, 0, 0)] 16 = true := by decide +kernel
theorem D_keepAgain_s17 : zseg (zown D_keepAgain) (zcode D_keepAgain) 17 [(.aload_n 0, 1, 0, 0, 0), (.getfield 24, 3, 0, 3, 0), (.getfield 38, 3, 0, 4, 5), (.iload_n 1, 1, 0, 0, 0), (.iaload, 1, 0, 0, 0), (.aload_n 0, 1, 0, 0, 0), (.getfield 28, 3, 0, 3, 2)] 30 = true := by decide +kernel
theorem D_keepAgain_s33 : zseg (zown D_keepAgain) (zcode D_keepAgain) 33 [(.bipush (-5), 2, (-5), 0, 0)] 35 = true := by decide +kernel
theorem D_keepAgain_s36 : zseg (zown D_keepAgain) (zcode D_keepAgain) 36 [(.aload_n 0, 1, 0, 0, 0), (.getfield 24, 3, 0, 3, 0), (.getfield 41, 3, 0, 4, 6), (.iload_n 1, 1, 0, 0, 0), (.aload_n 0, 1, 0, 0, 0), (.getfield 28, 3, 0, 3, 2), (.iastore, 1, 0, 0, 0), (.aload_n 0, 1, 0, 0, 0), (.getfield 11, 3, 0, 3, 1), (.iconst 1, 1, 1, 0, 0), (.dup2, 1, 0, 0, 0), (.iaload, 1, 0, 0, 0), (.iconst 1, 1, 1, 0, 0), (.iadd, 1, 0, 0, 0), (.iastore, 1, 0, 0, 0), (.iconst 1, 1, 1, 0, 0)] 60 = true := by decide +kernel
theorem D_keepAgain_d9 : decode (zcode D_keepAgain) 9 = .ok (.invokevirtual 32, 3) := by decide +kernel
theorem D_keepAgain_d12 : decode (zcode D_keepAgain) 12 = .ok (.ifCond .eq 5, 3) := by decide +kernel
theorem D_keepAgain_d16 : decode (zcode D_keepAgain) 16 = .ok (.ireturn, 1) := by decide +kernel
theorem D_keepAgain_d30 : decode (zcode D_keepAgain) 30 = .ok (.if_icmp .ne 6, 3) := by decide +kernel
theorem D_keepAgain_d35 : decode (zcode D_keepAgain) 35 = .ok (.ireturn, 1) := by decide +kernel
theorem D_keepAgain_d60 : decode (zcode D_keepAgain) 60 = .ok (.ireturn, 1) := by decide +kernel
theorem D_ringBell_s0 : zseg (zown D_ringBell) (zcode D_ringBell) 0 [(.aload_n 0, 1, 0, 0, 0), (.getfield 24, 3, 0, 3, 0), (.iload_n 1, 1, 0, 0, 0), (.aload_n 0, 1, 0, 0, 0), (.getfield 28, 3, 0, 3, 2), (.iload_n 2, 1, 0, 0, 0)] 10 = true := by decide +kernel
theorem D_ringBell_s13 : zseg (zown D_ringBell) (zcode D_ringBell) 13 [(.istore_n 3, 1, 0, 0, 0), (.aload_n 0, 1, 0, 0, 0), (.getfield 11, 3, 0, 3, 1), (.iconst 2, 1, 2, 0, 0), (.dup2, 1, 0, 0, 0), (.iaload, 1, 0, 0, 0), (.iconst 1, 1, 1, 0, 0), (.iadd, 1, 0, 0, 0), (.iastore, 1, 0, 0, 0), (.aload_n 0, 1, 0, 0, 0), (.getfield 11, 3, 0, 3, 1), (.iconst 3, 1, 3, 0, 0), (.dup2, 1, 0, 0, 0), (.iaload, 1, 0, 0, 0), (.iload_n 3, 1, 0, 0, 0)] 32 = true := by decide +kernel
theorem D_ringBell_s35 : zseg (zown D_ringBell) (zcode D_ringBell) 35 [(.iconst 1, 1, 1, 0, 0), (.goto 4, 3, 0, 0, 0)] 40 = true := by decide +kernel
theorem D_ringBell_s39 : zseg (zown D_ringBell) (zcode D_ringBell) 39 [(.iconst 0, 1, 0, 0, 0)] 40 = true := by decide +kernel
theorem D_ringBell_s43 : zseg (zown D_ringBell) (zcode D_ringBell) 43 [(.iadd, 1, 0, 0, 0), (.iastore, 1, 0, 0, 0), (.aload_n 0, 1, 0, 0, 0), (.getfield 24, 3, 0, 3, 0), (.getfield 52, 3, 0, 4, 0), (.iload_n 1, 1, 0, 0, 0), (.iaload, 1, 0, 0, 0), (.iload_n 3, 1, 0, 0, 0), (.iadd, 1, 0, 0, 0)] 56 = true := by decide +kernel
theorem D_ringBell_d10 : decode (zcode D_ringBell) 10 = .ok (.invokevirtual 44, 3) := by decide +kernel
theorem D_ringBell_d32 : decode (zcode D_ringBell) 32 = .ok (.ifCond .eq 7, 3) := by decide +kernel
theorem D_ringBell_d40 : decode (zcode D_ringBell) 40 = .ok (.invokestatic 48, 3) := by decide +kernel
theorem D_ringBell_d56 : decode (zcode D_ringBell) 56 = .ok (.ireturn, 1) := by decide +kernel
theorem D_keepImage_s0 : zseg (zown D_keepImage) (zcode D_keepImage) 0 [(.aload_n 0, 1, 0, 0, 0), (.iconst 1, 1, 1, 0, 0), (.putfield 55, 3, 0, 3, 3), (.aload_n 0, 1, 0, 0, 0), (.aload_n 0, 1, 0, 0, 0), (.getfield 28, 3, 0, 3, 2), (.putfield 59, 3, 0, 3, 7), (.aload_n 0, 1, 0, 0, 0), (.aload_n 0, 1, 0, 0, 0), (.getfield 24, 3, 0, 3, 0), (.getfield 62, 3, 0, 4, 8), (.putfield 65, 3, 0, 3, 8), (.aload_n 0, 1, 0, 0, 0), (.getfield 11, 3, 0, 3, 1), (.iconst 0, 1, 0, 0, 0), (.aload_n 0, 1, 0, 0, 0), (.getfield 15, 3, 0, 3, 4), (.iconst 0, 1, 0, 0, 0), (.iconst 4, 1, 4, 0, 0)] 35 = true := by decide +kernel
theorem D_keepImage_s38 : zseg (zown D_keepImage) (zcode D_keepImage) 38 [(.aload_n 0, 1, 0, 0, 0), (.getfield 24, 3, 0, 3, 0), (.getfield 38, 3, 0, 4, 5), (.iconst 0, 1, 0, 0, 0), (.aload_n 0, 1, 0, 0, 0), (.getfield 18, 3, 0, 3, 5), (.iconst 0, 1, 0, 0, 0), (.bipush 12, 2, 12, 0, 0)] 53 = true := by decide +kernel
theorem D_keepImage_s56 : zseg (zown D_keepImage) (zcode D_keepImage) 56 [(.aload_n 0, 1, 0, 0, 0), (.getfield 24, 3, 0, 3, 0), (.getfield 41, 3, 0, 4, 6), (.iconst 0, 1, 0, 0, 0), (.aload_n 0, 1, 0, 0, 0), (.getfield 21, 3, 0, 3, 6), (.iconst 0, 1, 0, 0, 0), (.bipush 12, 2, 12, 0, 0)] 71 = true := by decide +kernel
theorem D_keepImage_d35 : decode (zcode D_keepImage) 35 = .ok (.invokestatic 68, 3) := by decide +kernel
theorem D_keepImage_d53 : decode (zcode D_keepImage) 53 = .ok (.invokestatic 68, 3) := by decide +kernel
theorem D_keepImage_d71 : decode (zcode D_keepImage) 71 = .ok (.invokestatic 68, 3) := by decide +kernel
theorem D_keepImage_d74 : decode (zcode D_keepImage) 74 = .ok (.return_, 1) := by decide +kernel
theorem D_layBack_s0 : zseg (zown D_layBack) (zcode D_layBack) 0 [(.aload_n 0, 1, 0, 0, 0), (.aload_n 0, 1, 0, 0, 0), (.getfield 59, 3, 0, 3, 7), (.putfield 28, 3, 0, 3, 2), (.aload_n 0, 1, 0, 0, 0), (.getfield 15, 3, 0, 3, 4), (.iconst 0, 1, 0, 0, 0), (.aload_n 0, 1, 0, 0, 0), (.getfield 11, 3, 0, 3, 1), (.iconst 0, 1, 0, 0, 0), (.iconst 4, 1, 4, 0, 0)] 19 = true := by decide +kernel
theorem D_layBack_s22 : zseg (zown D_layBack) (zcode D_layBack) 22 [(.iconst 0, 1, 0, 0, 0), (.istore_n 1, 1, 0, 0, 0)] 24 = true := by decide +kernel
theorem D_layBack_s24 : zseg (zown D_layBack) (zcode D_layBack) 24 [(.iload_n 1, 1, 0, 0, 0), (.aload_n 0, 1, 0, 0, 0), (.getfield 65, 3, 0, 3, 8)] 29 = true := by decide +kernel
theorem D_layBack_s32 : zseg (zown D_layBack) (zcode D_layBack) 32 [(.iload_n 1, 1, 0, 0, 0), (.bipush 12, 2, 12, 0, 0)] 35 = true := by decide +kernel
theorem D_layBack_s38 : zseg (zown D_layBack) (zcode D_layBack) 38 [(.aload_n 0, 1, 0, 0, 0), (.getfield 24, 3, 0, 3, 0), (.getfield 38, 3, 0, 4, 5), (.iload_n 1, 1, 0, 0, 0), (.aload_n 0, 1, 0, 0, 0), (.getfield 18, 3, 0, 3, 5), (.iload_n 1, 1, 0, 0, 0), (.iaload, 1, 0, 0, 0), (.iastore, 1, 0, 0, 0), (.aload_n 0, 1, 0, 0, 0), (.getfield 24, 3, 0, 3, 0), (.getfield 41, 3, 0, 4, 6), (.iload_n 1, 1, 0, 0, 0), (.aload_n 0, 1, 0, 0, 0), (.getfield 21, 3, 0, 3, 6), (.iload_n 1, 1, 0, 0, 0), (.iaload, 1, 0, 0, 0), (.iastore, 1, 0, 0, 0), (.iinc 1 1, 3, 1, 0, 0), (.goto (-47), 3, 0, 0, 0)] 24 = true := by decide +kernel
theorem D_layBack_d19 : decode (zcode D_layBack) 19 = .ok (.invokestatic 68, 3) := by decide +kernel
theorem D_layBack_d29 : decode (zcode D_layBack) 29 = .ok (.if_icmp .ge 45, 3) := by decide +kernel
theorem D_layBack_d35 : decode (zcode D_layBack) 35 = .ok (.if_icmp .ge 39, 3) := by decide +kernel
theorem D_layBack_d74 : decode (zcode D_layBack) 74 = .ok (.return_, 1) := by decide +kernel
theorem F_hasBell_s0 : zseg (zown F_hasBell) (zcode F_hasBell) 0 [(.iload_n 1, 1, 0, 0, 0)] 1 = true := by decide +kernel
theorem F_hasBell_s4 : zseg (zown F_hasBell) (zcode F_hasBell) 4 [(.iload_n 1, 1, 0, 0, 0), (.aload_n 0, 1, 0, 0, 0), (.getfield 44, 3, 0, 4, 7)] 9 = true := by decide +kernel
theorem F_hasBell_s12 : zseg (zown F_hasBell) (zcode F_hasBell) 12 [(.iconst 1, 1, 1, 0, 0), (.goto 4, 3, 0, 0, 0)] 17 = true := by decide +kernel
theorem F_hasBell_s16 : zseg (zown F_hasBell) (zcode F_hasBell) 16 [(.iconst 0, 1, 0, 0, 0)] 17 = true := by decide +kernel
theorem F_hasBell_d1 : decode (zcode F_hasBell) 1 = .ok (.ifCond .lt 15, 3) := by decide +kernel
theorem F_hasBell_d9 : decode (zcode F_hasBell) 9 = .ok (.if_icmp .ge 7, 3) := by decide +kernel
theorem F_hasBell_d17 : decode (zcode F_hasBell) 17 = .ok (.ireturn, 1) := by decide +kernel
theorem F_hasVow_s0 : zseg (zown F_hasVow) (zcode F_hasVow) 0 [(.iload_n 1, 1, 0, 0, 0)] 1 = true := by decide +kernel
theorem F_hasVow_s4 : zseg (zown F_hasVow) (zcode F_hasVow) 4 [(.iload_n 1, 1, 0, 0, 0), (.aload_n 0, 1, 0, 0, 0), (.getfield 47, 3, 0, 4, 8)] 9 = true := by decide +kernel
theorem F_hasVow_s12 : zseg (zown F_hasVow) (zcode F_hasVow) 12 [(.iconst 1, 1, 1, 0, 0), (.goto 4, 3, 0, 0, 0)] 17 = true := by decide +kernel
theorem F_hasVow_s16 : zseg (zown F_hasVow) (zcode F_hasVow) 16 [(.iconst 0, 1, 0, 0, 0)] 17 = true := by decide +kernel
theorem F_hasVow_d1 : decode (zcode F_hasVow) 1 = .ok (.ifCond .lt 15, 3) := by decide +kernel
theorem F_hasVow_d9 : decode (zcode F_hasVow) 9 = .ok (.if_icmp .ge 7, 3) := by decide +kernel
theorem F_hasVow_d17 : decode (zcode F_hasVow) 17 = .ok (.ireturn, 1) := by decide +kernel
theorem F_isVow_s0 : zseg (zown F_isVow) (zcode F_isVow) 0 [(.aload_n 0, 1, 0, 0, 0), (.iload_n 1, 1, 0, 0, 0)] 2 = true := by decide +kernel
theorem F_isVow_s8 : zseg (zown F_isVow) (zcode F_isVow) 8 [(.iload_n 2, 1, 0, 0, 0), (.iconst 1, 1, 1, 0, 0)] 10 = true := by decide +kernel
theorem F_isVow_s13 : zseg (zown F_isVow) (zcode F_isVow) 13 [(.iload_n 2, 1, 0, 0, 0), (.bipush 9, 2, 9, 0, 0)] 16 = true := by decide +kernel
theorem F_isVow_s19 : zseg (zown F_isVow) (zcode F_isVow) 19 [(.iload_n 3, 1, 0, 0, 0), (.iconst 5, 1, 5, 0, 0)] 21 = true := by decide +kernel
theorem F_isVow_s27 : zseg (zown F_isVow) (zcode F_isVow) 27 [(.iconst 1, 1, 1, 0, 0), (.goto 4, 3, 0, 0, 0)] 32 = true := by decide +kernel
theorem F_isVow_s31 : zseg (zown F_isVow) (zcode F_isVow) 31 [(.iconst 0, 1, 0, 0, 0)] 32 = true := by decide +kernel
theorem F_isVow_d2 : decode (zcode F_isVow) 2 = .ok (.invokevirtual 50, 3) := by decide +kernel
theorem F_isVow_d5 : decode (zcode F_isVow) 5 = .ok (.ifCond .eq 26, 3) := by decide +kernel
theorem F_isVow_d10 : decode (zcode F_isVow) 10 = .ok (.if_icmp .lt 21, 3) := by decide +kernel
theorem F_isVow_d16 : decode (zcode F_isVow) 16 = .ok (.if_icmp .gt 15, 3) := by decide +kernel
theorem F_isVow_d21 : decode (zcode F_isVow) 21 = .ok (.invokestatic 54, 3) := by decide +kernel
theorem F_isVow_d24 : decode (zcode F_isVow) 24 = .ok (.ifCond .eq 7, 3) := by decide +kernel
theorem F_isVow_d32 : decode (zcode F_isVow) 32 = .ok (.ireturn, 1) := by decide +kernel
theorem F_addBell_s0 : zseg (zown F_addBell) (zcode F_addBell) 0 [(.aload_n 0, 1, 0, 0, 0), (.getfield 44, 3, 0, 4, 7), (.bipush 6, 2, 6, 0, 0)] 6 = true := by decide +kernel
theorem F_addBell_s9 : zseg (zown F_addBell) (zcode F_addBell) 9 [(.bipush (-3), 2, (-3), 0, 0)] 11 = true := by decide +kernel
theorem F_addBell_s12 : zseg (zown F_addBell) (zcode F_addBell) 12 [(.aload_n 0, 1, 0, 0, 0), (.getfield 9, 3, 0, 4, 0), (.aload_n 0, 1, 0, 0, 0), (.getfield 44, 3, 0, 4, 7), (.iload_n 1, 1, 0, 0, 0), (.iastore, 1, 0, 0, 0), (.aload_n 0, 1, 0, 0, 0), (.getfield 15, 3, 0, 4, 1), (.aload_n 0, 1, 0, 0, 0), (.getfield 44, 3, 0, 4, 7), (.bipush 12, 2, 12, 0, 0), (.iastore, 1, 0, 0, 0), (.aload_n 0, 1, 0, 0, 0), (.dup, 1, 0, 0, 0), (.getfield 44, 3, 0, 4, 7), (.dup_x1, 1, 0, 0, 0), (.iconst 1, 1, 1, 0, 0), (.iadd, 1, 0, 0, 0), (.putfield 44, 3, 0, 4, 7)] 44 = true := by decide +kernel
theorem F_addBell_d6 : decode (zcode F_addBell) 6 = .ok (.if_icmp .lt 6, 3) := by decide +kernel
theorem F_addBell_d11 : decode (zcode F_addBell) 11 = .ok (.ireturn, 1) := by decide +kernel
theorem F_addBell_d44 : decode (zcode F_addBell) 44 = .ok (.ireturn, 1) := by decide +kernel
theorem F_addVow_s0 : zseg (zown F_addVow) (zcode F_addVow) 0 [(.aload_n 0, 1, 0, 0, 0), (.getfield 47, 3, 0, 4, 8), (.bipush 12, 2, 12, 0, 0)] 6 = true := by decide +kernel
theorem F_addVow_s9 : zseg (zown F_addVow) (zcode F_addVow) 9 [(.bipush (-3), 2, (-3), 0, 0)] 11 = true := by decide +kernel
theorem F_addVow_s12 : zseg (zown F_addVow) (zcode F_addVow) 12 [(.aload_n 0, 1, 0, 0, 0), (.getfield 18, 3, 0, 4, 2), (.aload_n 0, 1, 0, 0, 0), (.getfield 47, 3, 0, 4, 8), (.iload_n 1, 1, 0, 0, 0), (.iastore, 1, 0, 0, 0), (.aload_n 0, 1, 0, 0, 0), (.getfield 21, 3, 0, 4, 3), (.aload_n 0, 1, 0, 0, 0), (.getfield 47, 3, 0, 4, 8), (.iload_n 2, 1, 0, 0, 0), (.iastore, 1, 0, 0, 0), (.aload_n 0, 1, 0, 0, 0), (.getfield 24, 3, 0, 4, 4), (.aload_n 0, 1, 0, 0, 0), (.getfield 47, 3, 0, 4, 8), (.iload_n 3, 1, 0, 0, 0), (.iastore, 1, 0, 0, 0), (.aload_n 0, 1, 0, 0, 0), (.getfield 27, 3, 0, 4, 5), (.aload_n 0, 1, 0, 0, 0), (.getfield 47, 3, 0, 4, 8), (.sipush 999, 3, 999, 0, 0), (.iastore, 1, 0, 0, 0), (.aload_n 0, 1, 0, 0, 0), (.getfield 30, 3, 0, 4, 6), (.aload_n 0, 1, 0, 0, 0), (.getfield 47, 3, 0, 4, 8), (.sipush 999, 3, 999, 0, 0), (.iastore, 1, 0, 0, 0), (.aload_n 0, 1, 0, 0, 0), (.dup, 1, 0, 0, 0), (.getfield 47, 3, 0, 4, 8), (.dup_x1, 1, 0, 0, 0), (.iconst 1, 1, 1, 0, 0), (.iadd, 1, 0, 0, 0), (.putfield 47, 3, 0, 4, 8)] 77 = true := by decide +kernel
theorem F_addVow_d6 : decode (zcode F_addVow) 6 = .ok (.if_icmp .lt 6, 3) := by decide +kernel
theorem F_addVow_d11 : decode (zcode F_addVow) 11 = .ok (.ireturn, 1) := by decide +kernel
theorem F_addVow_d77 : decode (zcode F_addVow) 77 = .ok (.ireturn, 1) := by decide +kernel
theorem F_hasNumber_s0 : zseg (zown F_hasNumber) (zcode F_hasNumber) 0 [(.iload_n 2, 1, 0, 0, 0), (.bipush 7, 2, 7, 0, 0)] 3 = true := by decide +kernel
theorem F_hasNumber_s6 : zseg (zown F_hasNumber) (zcode F_hasNumber) 6 [(.iload_n 1, 1, 0, 0, 0)] 7 = true := by decide +kernel
theorem F_hasNumber_s10 : zseg (zown F_hasNumber) (zcode F_hasNumber) 10 [(.iconst 1, 1, 1, 0, 0), (.goto 4, 3, 0, 0, 0)] 15 = true := by decide +kernel
theorem F_hasNumber_s14 : zseg (zown F_hasNumber) (zcode F_hasNumber) 14 [(.iconst 0, 1, 0, 0, 0)] 15 = true := by decide +kernel
theorem F_hasNumber_s16 : zseg (zown F_hasNumber) (zcode F_hasNumber) 16 [(.iload_n 2, 1, 0, 0, 0), (.iconst 2, 1, 2, 0, 0)] 18 = true := by decide +kernel
theorem F_hasNumber_s21 : zseg (zown F_hasNumber) (zcode F_hasNumber) 21 [(.iload_n 2, 1, 0, 0, 0)] 22 = true := by decide +kernel
theorem F_hasNumber_s25 : zseg (zown F_hasNumber) (zcode F_hasNumber) 25 [(.aload_n 0, 1, 0, 0, 0), (.iload_n 1, 1, 0, 0, 0)] 27 = true := by decide +kernel
theorem F_hasNumber_s33 : zseg (zown F_hasNumber) (zcode F_hasNumber) 33 [(.iconst 1, 1, 1, 0, 0), (.goto 26, 3, 0, 0, 0)] 60 = true := by decide +kernel
theorem F_hasNumber_s37 : zseg (zown F_hasNumber) (zcode F_hasNumber) 37 [(.iconst 0, 1, 0, 0, 0), (.goto 22, 3, 0, 0, 0)] 60 = true := by decide +kernel
theorem F_hasNumber_s41 : zseg (zown F_hasNumber) (zcode F_hasNumber) 41 [(.iload_n 2, 1, 0, 0, 0), (.bipush 7, 2, 7, 0, 0)] 44 = true := by decide +kernel
theorem F_hasNumber_s47 : zseg (zown F_hasNumber) (zcode F_hasNumber) 47 [(.aload_n 0, 1, 0, 0, 0), (.iload_n 1, 1, 0, 0, 0)] 49 = true := by decide +kernel
theorem F_hasNumber_s55 : zseg (zown F_hasNumber) (zcode F_hasNumber) 55 [(.iconst 1, 1, 1, 0, 0), (.goto 4, 3, 0, 0, 0)] 60 = true := by decide +kernel
theorem F_hasNumber_s59 : zseg (zown F_hasNumber) (zcode F_hasNumber) 59 [(.iconst 0, 1, 0, 0, 0)] 60 = true := by decide +kernel
theorem F_hasNumber_d3 : decode (zcode F_hasNumber) 3 = .ok (.if_icmp .ne 13, 3) := by decide +kernel
theorem F_hasNumber_d7 : decode (zcode F_hasNumber) 7 = .ok (.ifCond .ne 7, 3) := by decide +kernel
theorem F_hasNumber_d15 : decode (zcode F_hasNumber) 15 = .ok (.ireturn, 1) := by decide +kernel
theorem F_hasNumber_d18 : decode (zcode F_hasNumber) 18 = .ok (.if_icmp .ge 23, 3) := by decide +kernel
theorem F_hasNumber_d22 : decode (zcode F_hasNumber) 22 = .ok (.ifCond .lt 15, 3) := by decide +kernel
theorem F_hasNumber_d27 : decode (zcode F_hasNumber) 27 = .ok (.invokevirtual 50, 3) := by decide +kernel
theorem F_hasNumber_d30 : decode (zcode F_hasNumber) 30 = .ok (.ifCond .eq 7, 3) := by decide +kernel
theorem F_hasNumber_d60 : decode (zcode F_hasNumber) 60 = .ok (.ireturn, 1) := by decide +kernel
theorem F_hasNumber_d44 : decode (zcode F_hasNumber) 44 = .ok (.if_icmp .ge 15, 3) := by decide +kernel
theorem F_hasNumber_d49 : decode (zcode F_hasNumber) 49 = .ok (.invokevirtual 58, 3) := by decide +kernel
theorem F_hasNumber_d52 : decode (zcode F_hasNumber) 52 = .ok (.ifCond .eq 7, 3) := by decide +kernel
theorem F_allows_s0 : zseg (zown F_allows) (zcode F_allows) 0 [(.iload_n 1, 1, 0, 0, 0)] 1 = true := by decide +kernel
theorem F_allows_s48 : zseg (zown F_allows) (zcode F_allows) 48 [(.iload_n 2, 1, 0, 0, 0), (.bipush 99, 2, 99, 0, 0)] 51 = true := by decide +kernel
theorem F_allows_s55 : zseg (zown F_allows) (zcode F_allows) 55 [(.iload_n 2, 1, 0, 0, 0), (.iconst 1, 1, 1, 0, 0)] 57 = true := by decide +kernel
theorem F_allows_s60 : zseg (zown F_allows) (zcode F_allows) 60 [(.iload_n 2, 1, 0, 0, 0), (.bipush 24, 2, 24, 0, 0)] 63 = true := by decide +kernel
theorem F_allows_s66 : zseg (zown F_allows) (zcode F_allows) 66 [(.iconst 1, 1, 1, 0, 0), (.goto 4, 3, 0, 0, 0)] 71 = true := by decide +kernel
theorem F_allows_s70 : zseg (zown F_allows) (zcode F_allows) 70 [(.iconst 0, 1, 0, 0, 0)] 71 = true := by decide +kernel
theorem F_allows_s72 : zseg (zown F_allows) (zcode F_allows) 72 [(.aload_n 0, 1, 0, 0, 0), (.iload_n 2, 1, 0, 0, 0)] 74 = true := by decide +kernel
theorem F_allows_s78 : zseg (zown F_allows) (zcode F_allows) 78 [(.iload_n 2, 1, 0, 0, 0), (.iconst 1, 1, 1, 0, 0)] 80 = true := by decide +kernel
theorem F_allows_s83 : zseg (zown F_allows) (zcode F_allows) 83 [(.iload_n 2, 1, 0, 0, 0), (.bipush 9, 2, 9, 0, 0)] 86 = true := by decide +kernel
theorem F_allows_s89 : zseg (zown F_allows) (zcode F_allows) 89 [(.iconst 1, 1, 1, 0, 0), (.goto 4, 3, 0, 0, 0)] 94 = true := by decide +kernel
theorem F_allows_s93 : zseg (zown F_allows) (zcode F_allows) 93 [(.iconst 0, 1, 0, 0, 0)] 94 = true := by decide +kernel
theorem F_allows_s95 : zseg (zown F_allows) (zcode F_allows) 95 [(.iload_n 2, 1, 0, 0, 0), (.iconst 5, 1, 5, 0, 0)] 97 = true := by decide +kernel
theorem F_allows_s101 : zseg (zown F_allows) (zcode F_allows) 101 [(.iload_n 2, 1, 0, 0, 0), (.sipush 999, 3, 999, 0, 0)] 105 = true := by decide +kernel
theorem F_allows_s109 : zseg (zown F_allows) (zcode F_allows) 109 [(.iload_n 2, 1, 0, 0, 0), (.bipush 12, 2, 12, 0, 0)] 112 = true := by decide +kernel
theorem F_allows_s116 : zseg (zown F_allows) (zcode F_allows) 116 [(.iconst 0, 1, 0, 0, 0)] 117 = true := by decide +kernel
theorem F_allows_d1 : decode (zcode F_allows) 1 = .ok (.tableswitch 115 0 7 #[47, 54, 71, 77, 94, 100, 100, 108], 47) := by decide +kernel
theorem F_allows_d51 : decode (zcode F_allows) 51 = .ok (.invokestatic 54, 3) := by decide +kernel
theorem F_allows_d54 : decode (zcode F_allows) 54 = .ok (.ireturn, 1) := by decide +kernel
theorem F_allows_d57 : decode (zcode F_allows) 57 = .ok (.if_icmp .lt 13, 3) := by decide +kernel
theorem F_allows_d63 : decode (zcode F_allows) 63 = .ok (.if_icmp .gt 7, 3) := by decide +kernel
theorem F_allows_d71 : decode (zcode F_allows) 71 = .ok (.ireturn, 1) := by decide +kernel
theorem F_allows_d74 : decode (zcode F_allows) 74 = .ok (.invokevirtual 50, 3) := by decide +kernel
theorem F_allows_d77 : decode (zcode F_allows) 77 = .ok (.ireturn, 1) := by decide +kernel
theorem F_allows_d80 : decode (zcode F_allows) 80 = .ok (.if_icmp .lt 13, 3) := by decide +kernel
theorem F_allows_d86 : decode (zcode F_allows) 86 = .ok (.if_icmp .gt 7, 3) := by decide +kernel
theorem F_allows_d94 : decode (zcode F_allows) 94 = .ok (.ireturn, 1) := by decide +kernel
theorem F_allows_d97 : decode (zcode F_allows) 97 = .ok (.invokestatic 54, 3) := by decide +kernel
theorem F_allows_d100 : decode (zcode F_allows) 100 = .ok (.ireturn, 1) := by decide +kernel
theorem F_allows_d105 : decode (zcode F_allows) 105 = .ok (.invokestatic 54, 3) := by decide +kernel
theorem F_allows_d108 : decode (zcode F_allows) 108 = .ok (.ireturn, 1) := by decide +kernel
theorem F_allows_d112 : decode (zcode F_allows) 112 = .ok (.invokestatic 54, 3) := by decide +kernel
theorem F_allows_d115 : decode (zcode F_allows) 115 = .ok (.ireturn, 1) := by decide +kernel
theorem F_allows_d117 : decode (zcode F_allows) 117 = .ok (.ireturn, 1) := by decide +kernel
theorem F_numberOf_s0 : zseg (zown F_numberOf) (zcode F_numberOf) 0 [(.aload_n 0, 1, 0, 0, 0), (.iload_n 1, 1, 0, 0, 0), (.iload_n 2, 1, 0, 0, 0)] 3 = true := by decide +kernel
theorem F_numberOf_s9 : zseg (zown F_numberOf) (zcode F_numberOf) 9 [(.iconst (-1), 1, (-1), 0, 0)] 10 = true := by decide +kernel
theorem F_numberOf_s11 : zseg (zown F_numberOf) (zcode F_numberOf) 11 [(.iload_n 2, 1, 0, 0, 0), (.bipush 7, 2, 7, 0, 0)] 14 = true := by decide +kernel
theorem F_numberOf_s17 : zseg (zown F_numberOf) (zcode F_numberOf) 17 [(.aload_n 0, 1, 0, 0, 0), (.getfield 33, 3, 0, 4, 9), (.goto 10, 3, 0, 0, 0)] 31 = true := by decide +kernel
theorem F_numberOf_s24 : zseg (zown F_numberOf) (zcode F_numberOf) 24 [(.aload_n 0, 1, 0, 0, 0), (.iload_n 2, 1, 0, 0, 0)] 26 = true := by decide +kernel
theorem F_numberOf_s29 : zseg (zown F_numberOf) (zcode F_numberOf) 29 [(.iload_n 1, 1, 0, 0, 0), (.iaload, 1, 0, 0, 0)] 31 = true := by decide +kernel
theorem F_numberOf_d3 : decode (zcode F_numberOf) 3 = .ok (.invokevirtual 61, 3) := by decide +kernel
theorem F_numberOf_d6 : decode (zcode F_numberOf) 6 = .ok (.ifCond .ne 5, 3) := by decide +kernel
theorem F_numberOf_d10 : decode (zcode F_numberOf) 10 = .ok (.ireturn, 1) := by decide +kernel
theorem F_numberOf_d14 : decode (zcode F_numberOf) 14 = .ok (.if_icmp .ne 10, 3) := by decide +kernel
theorem F_numberOf_d31 : decode (zcode F_numberOf) 31 = .ok (.ireturn, 1) := by decide +kernel
theorem F_numberOf_d26 : decode (zcode F_numberOf) 26 = .ok (.invokevirtual 64, 3) := by decide +kernel
theorem F_setNumber_s0 : zseg (zown F_setNumber) (zcode F_setNumber) 0 [(.aload_n 0, 1, 0, 0, 0), (.iload_n 1, 1, 0, 0, 0), (.iload_n 2, 1, 0, 0, 0)] 3 = true := by decide +kernel
theorem F_setNumber_s10 : zseg (zown F_setNumber) (zcode F_setNumber) 10 [(.iload_n 2, 1, 0, 0, 0), (.bipush 7, 2, 7, 0, 0)] 13 = true := by decide +kernel
theorem F_setNumber_s16 : zseg (zown F_setNumber) (zcode F_setNumber) 16 [(.aload_n 0, 1, 0, 0, 0), (.iload_n 3, 1, 0, 0, 0), (.putfield 33, 3, 0, 4, 9), (.goto 11, 3, 0, 0, 0)] 32 = true := by decide +kernel
theorem F_setNumber_s24 : zseg (zown F_setNumber) (zcode F_setNumber) 24 [(.aload_n 0, 1, 0, 0, 0), (.iload_n 2, 1, 0, 0, 0)] 26 = true := by decide +kernel
theorem F_setNumber_s29 : zseg (zown F_setNumber) (zcode F_setNumber) 29 [(.iload_n 1, 1, 0, 0, 0), (.iload_n 3, 1, 0, 0, 0), (.iastore, 1, 0, 0, 0)] 32 = true := by decide +kernel
theorem F_setNumber_d3 : decode (zcode F_setNumber) 3 = .ok (.invokevirtual 61, 3) := by decide +kernel
theorem F_setNumber_d6 : decode (zcode F_setNumber) 6 = .ok (.ifCond .ne 4, 3) := by decide +kernel
theorem F_setNumber_d9 : decode (zcode F_setNumber) 9 = .ok (.return_, 1) := by decide +kernel
theorem F_setNumber_d13 : decode (zcode F_setNumber) 13 = .ok (.if_icmp .ne 11, 3) := by decide +kernel
theorem F_setNumber_d32 : decode (zcode F_setNumber) 32 = .ok (.return_, 1) := by decide +kernel
theorem F_setNumber_d26 : decode (zcode F_setNumber) 26 = .ok (.invokevirtual 64, 3) := by decide +kernel
theorem F_rowOf_s0 : zseg (zown F_rowOf) (zcode F_rowOf) 0 [(.iload_n 1, 1, 0, 0, 0)] 1 = true := by decide +kernel
theorem F_rowOf_s40 : zseg (zown F_rowOf) (zcode F_rowOf) 40 [(.aload_n 0, 1, 0, 0, 0), (.getfield 9, 3, 0, 4, 0)] 44 = true := by decide +kernel
theorem F_rowOf_s45 : zseg (zown F_rowOf) (zcode F_rowOf) 45 [(.aload_n 0, 1, 0, 0, 0), (.getfield 15, 3, 0, 4, 1)] 49 = true := by decide +kernel
theorem F_rowOf_s50 : zseg (zown F_rowOf) (zcode F_rowOf) 50 [(.aload_n 0, 1, 0, 0, 0), (.getfield 18, 3, 0, 4, 2)] 54 = true := by decide +kernel
theorem F_rowOf_s55 : zseg (zown F_rowOf) (zcode F_rowOf) 55 [(.aload_n 0, 1, 0, 0, 0), (.getfield 21, 3, 0, 4, 3)] 59 = true := by decide +kernel
theorem F_rowOf_s60 : zseg (zown F_rowOf) (zcode F_rowOf) 60 [(.aload_n 0, 1, 0, 0, 0), (.getfield 24, 3, 0, 4, 4)] 64 = true := by decide +kernel
theorem F_rowOf_s65 : zseg (zown F_rowOf) (zcode F_rowOf) 65 [(.aload_n 0, 1, 0, 0, 0), (.getfield 27, 3, 0, 4, 5)] 69 = true := by decide +kernel
theorem F_rowOf_s70 : zseg (zown F_rowOf) (zcode F_rowOf) 70 [(.aload_n 0, 1, 0, 0, 0), (.getfield 30, 3, 0, 4, 6)] 74 = true := by decide +kernel
theorem F_rowOf_d1 : decode (zcode F_rowOf) 1 = .ok (.tableswitch 69 0 5 #[39, 44, 49, 54, 59, 64], 39) := by decide +kernel
theorem F_rowOf_d44 : decode (zcode F_rowOf) 44 = .ok (.areturn, 1) := by decide +kernel
theorem F_rowOf_d49 : decode (zcode F_rowOf) 49 = .ok (.areturn, 1) := by decide +kernel
theorem F_rowOf_d54 : decode (zcode F_rowOf) 54 = .ok (.areturn, 1) := by decide +kernel
theorem F_rowOf_d59 : decode (zcode F_rowOf) 59 = .ok (.areturn, 1) := by decide +kernel
theorem F_rowOf_d64 : decode (zcode F_rowOf) 64 = .ok (.areturn, 1) := by decide +kernel
theorem F_rowOf_d69 : decode (zcode F_rowOf) 69 = .ok (.areturn, 1) := by decide +kernel
theorem F_rowOf_d74 : decode (zcode F_rowOf) 74 = .ok (.areturn, 1) := by decide +kernel
theorem F_isKept_s0 : zseg (zown F_isKept) (zcode F_isKept) 0 [(.iload_n 2, 1, 0, 0, 0), (.aload_n 0, 1, 0, 0, 0), (.getfield 27, 3, 0, 4, 5), (.iload_n 1, 1, 0, 0, 0), (.iaload, 1, 0, 0, 0)] 7 = true := by decide +kernel
theorem F_isKept_s10 : zseg (zown F_isKept) (zcode F_isKept) 10 [(.aload_n 0, 1, 0, 0, 0), (.getfield 27, 3, 0, 4, 5), (.iload_n 1, 1, 0, 0, 0), (.iaload, 1, 0, 0, 0), (.aload_n 0, 1, 0, 0, 0), (.getfield 30, 3, 0, 4, 6), (.iload_n 1, 1, 0, 0, 0), (.iaload, 1, 0, 0, 0)] 22 = true := by decide +kernel
theorem F_isKept_s25 : zseg (zown F_isKept) (zcode F_isKept) 25 [(.aload_n 0, 1, 0, 0, 0), (.getfield 30, 3, 0, 4, 6), (.iload_n 1, 1, 0, 0, 0), (.iaload, 1, 0, 0, 0), (.iload_n 2, 1, 0, 0, 0)] 32 = true := by decide +kernel
theorem F_isKept_s35 : zseg (zown F_isKept) (zcode F_isKept) 35 [(.iconst 1, 1, 1, 0, 0), (.goto 4, 3, 0, 0, 0)] 40 = true := by decide +kernel
theorem F_isKept_s39 : zseg (zown F_isKept) (zcode F_isKept) 39 [(.iconst 0, 1, 0, 0, 0)] 40 = true := by decide +kernel
theorem F_isKept_d7 : decode (zcode F_isKept) 7 = .ok (.if_icmp .lt 28, 3) := by decide +kernel
theorem F_isKept_d22 : decode (zcode F_isKept) 22 = .ok (.if_icmp .ge 17, 3) := by decide +kernel
theorem F_isKept_d32 : decode (zcode F_isKept) 32 = .ok (.if_icmp .gt 7, 3) := by decide +kernel
theorem F_isKept_d40 : decode (zcode F_isKept) 40 = .ok (.ireturn, 1) := by decide +kernel
theorem F_daysBroken_s0 : zseg (zown F_daysBroken) (zcode F_daysBroken) 0 [(.aload_n 0, 1, 0, 0, 0), (.iload_n 1, 1, 0, 0, 0), (.iload_n 2, 1, 0, 0, 0)] 3 = true := by decide +kernel
theorem F_daysBroken_s9 : zseg (zown F_daysBroken) (zcode F_daysBroken) 9 [(.iconst (-1), 1, (-1), 0, 0), (.goto 11, 3, 0, 0, 0)] 21 = true := by decide +kernel
theorem F_daysBroken_s13 : zseg (zown F_daysBroken) (zcode F_daysBroken) 13 [(.iload_n 2, 1, 0, 0, 0), (.aload_n 0, 1, 0, 0, 0), (.getfield 27, 3, 0, 4, 5), (.iload_n 1, 1, 0, 0, 0), (.iaload, 1, 0, 0, 0), (.isub, 1, 0, 0, 0)] 21 = true := by decide +kernel
theorem F_daysBroken_d3 : decode (zcode F_daysBroken) 3 = .ok (.invokevirtual 68, 3) := by decide +kernel
theorem F_daysBroken_d6 : decode (zcode F_daysBroken) 6 = .ok (.ifCond .eq 7, 3) := by decide +kernel
theorem F_daysBroken_d21 : decode (zcode F_daysBroken) 21 = .ok (.ireturn, 1) := by decide +kernel
theorem F_offIf_s0 : zseg (zown F_offIf) (zcode F_offIf) 0 [(.aload_n 0, 1, 0, 0, 0), (.getfield 40, 3, 0, 4, 10), (.getfield 71, 3, 0, 6, 4)] 7 = true := by decide +kernel
theorem F_offIf_s10 : zseg (zown F_offIf) (zcode F_offIf) 10 [(.iload_n 3, 1, 0, 0, 0), (.iconst (-1), 1, (-1), 0, 0)] 12 = true := by decide +kernel
theorem F_offIf_s15 : zseg (zown F_offIf) (zcode F_offIf) 15 [(.iconst 0, 1, 0, 0, 0), (.goto 10, 3, 0, 0, 0)] 26 = true := by decide +kernel
theorem F_offIf_s19 : zseg (zown F_offIf) (zcode F_offIf) 19 [(.aload_n 0, 1, 0, 0, 0), (.getfield 21, 3, 0, 4, 3), (.iload_n 1, 1, 0, 0, 0), (.iaload, 1, 0, 0, 0), (.ineg, 1, 0, 0, 0)] 26 = true := by decide +kernel
theorem F_offIf_s27 : zseg (zown F_offIf) (zcode F_offIf) 27 [(.iload_n 3, 1, 0, 0, 0), (.iconst (-1), 1, (-1), 0, 0)] 29 = true := by decide +kernel
theorem F_offIf_s32 : zseg (zown F_offIf) (zcode F_offIf) 32 [(.iconst 1, 1, 1, 0, 0), (.goto 4, 3, 0, 0, 0)] 37 = true := by decide +kernel
theorem F_offIf_s36 : zseg (zown F_offIf) (zcode F_offIf) 36 [(.iconst 0, 1, 0, 0, 0)] 37 = true := by decide +kernel
theorem F_offIf_s40 : zseg (zown F_offIf) (zcode F_offIf) 40 [(.istore 5, 2, 0, 0, 0), (.aload_n 0, 1, 0, 0, 0), (.getfield 40, 3, 0, 4, 10), (.aload_n 0, 1, 0, 0, 0), (.getfield 21, 3, 0, 4, 3), (.iload_n 1, 1, 0, 0, 0), (.iaload, 1, 0, 0, 0), (.iload 5, 2, 0, 0, 0), (.iload_n 3, 1, 0, 0, 0), (.iconst 0, 1, 0, 0, 0)] 56 = true := by decide +kernel
theorem F_offIf_s59 : zseg (zown F_offIf) (zcode F_offIf) 59 [(.iload 4, 2, 0, 0, 0), (.iload_n 2, 1, 0, 0, 0), (.aload_n 0, 1, 0, 0, 0), (.getfield 24, 3, 0, 4, 4), (.iload_n 1, 1, 0, 0, 0), (.iaload, 1, 0, 0, 0)] 68 = true := by decide +kernel
theorem F_offIf_s71 : zseg (zown F_offIf) (zcode F_offIf) 71 [(.bipush (-9), 2, (-9), 0, 0), (.bipush 9, 2, 9, 0, 0), (.aload_n 0, 1, 0, 0, 0), (.getfield 40, 3, 0, 4, 10)] 79 = true := by decide +kernel
theorem F_offIf_d7 : decode (zcode F_offIf) 7 = .ok (.ifCond .ne 20, 3) := by decide +kernel
theorem F_offIf_d12 : decode (zcode F_offIf) 12 = .ok (.if_icmp .ne 7, 3) := by decide +kernel
theorem F_offIf_d26 : decode (zcode F_offIf) 26 = .ok (.ireturn, 1) := by decide +kernel
theorem F_offIf_d29 : decode (zcode F_offIf) 29 = .ok (.if_icmp .ne 7, 3) := by decide +kernel
theorem F_offIf_d37 : decode (zcode F_offIf) 37 = .ok (.invokestatic 74, 3) := by decide +kernel
theorem F_offIf_d56 : decode (zcode F_offIf) 56 = .ok (.invokestatic 78, 3) := by decide +kernel
theorem F_offIf_d68 : decode (zcode F_offIf) 68 = .ok (.invokevirtual 84, 3) := by decide +kernel
theorem F_offIf_d79 : decode (zcode F_offIf) 79 = .ok (.invokevirtual 88, 3) := by decide +kernel
theorem F_offIf_d82 : decode (zcode F_offIf) 82 = .ok (.invokestatic 92, 3) := by decide +kernel
theorem F_offIf_d85 : decode (zcode F_offIf) 85 = .ok (.invokestatic 78, 3) := by decide +kernel
theorem F_offIf_d88 : decode (zcode F_offIf) 88 = .ok (.ireturn, 1) := by decide +kernel
theorem F_offByVow_s0 : zseg (zown F_offByVow) (zcode F_offByVow) 0 [(.aload_n 0, 1, 0, 0, 0), (.iload_n 1, 1, 0, 0, 0), (.aload_n 0, 1, 0, 0, 0), (.getfield 18, 3, 0, 4, 2), (.iload_n 1, 1, 0, 0, 0), (.iaload, 1, 0, 0, 0), (.aload_n 0, 1, 0, 0, 0), (.iload_n 1, 1, 0, 0, 0), (.iload_n 2, 1, 0, 0, 0)] 11 = true := by decide +kernel
theorem F_offByVow_s14 : zseg (zown F_offByVow) (zcode F_offByVow) 14 [(.iload_n 3, 1, 0, 0, 0)] 15 = true := by decide +kernel
theorem F_offByVow_d11 : decode (zcode F_offByVow) 11 = .ok (.invokevirtual 95, 3) := by decide +kernel
theorem F_offByVow_d15 : decode (zcode F_offByVow) 15 = .ok (.invokevirtual 98, 3) := by decide +kernel
theorem F_offByVow_d18 : decode (zcode F_offByVow) 18 = .ok (.ireturn, 1) := by decide +kernel
theorem F_offOf_s0 : zseg (zown F_offOf) (zcode F_offOf) 0 [(.iconst 0, 1, 0, 0, 0), (.istore 4, 2, 0, 0, 0), (.iconst 0, 1, 0, 0, 0), (.istore 5, 2, 0, 0, 0)] 6 = true := by decide +kernel
theorem F_offOf_s6 : zseg (zown F_offOf) (zcode F_offOf) 6 [(.iload 5, 2, 0, 0, 0), (.aload_n 0, 1, 0, 0, 0), (.getfield 47, 3, 0, 4, 8)] 12 = true := by decide +kernel
theorem F_offOf_s15 : zseg (zown F_offOf) (zcode F_offOf) 15 [(.aload_n 0, 1, 0, 0, 0), (.getfield 18, 3, 0, 4, 2), (.iload 5, 2, 0, 0, 0), (.iaload, 1, 0, 0, 0), (.iload_n 1, 1, 0, 0, 0)] 23 = true := by decide +kernel
theorem F_offOf_s26 : zseg (zown F_offOf) (zcode F_offOf) 26 [(.iload 4, 2, 0, 0, 0), (.aload_n 0, 1, 0, 0, 0), (.iload 5, 2, 0, 0, 0), (.iload_n 1, 1, 0, 0, 0), (.aload_n 0, 1, 0, 0, 0), (.iload 5, 2, 0, 0, 0), (.iload_n 2, 1, 0, 0, 0)] 36 = true := by decide +kernel
theorem F_offOf_s39 : zseg (zown F_offOf) (zcode F_offOf) 39 [(.iload_n 3, 1, 0, 0, 0)] 40 = true := by decide +kernel
theorem F_offOf_s43 : zseg (zown F_offOf) (zcode F_offOf) 43 [(.iadd, 1, 0, 0, 0), (.istore 4, 2, 0, 0, 0), (.iinc 5 1, 3, 1, 0, 0), (.goto (-43), 3, 0, 0, 0)] 6 = true := by decide +kernel
theorem F_offOf_s46 : zseg (zown F_offOf) (zcode F_offOf) 46 [(.iinc 5 1, 3, 1, 0, 0), (.goto (-43), 3, 0, 0, 0)] 6 = true := by decide +kernel
theorem F_offOf_s52 : zseg (zown F_offOf) (zcode F_offOf) 52 [(.iload 4, 2, 0, 0, 0)] 54 = true := by decide +kernel
theorem F_offOf_d12 : decode (zcode F_offOf) 12 = .ok (.if_icmp .ge 40, 3) := by decide +kernel
theorem F_offOf_d23 : decode (zcode F_offOf) 23 = .ok (.if_icmp .ne 23, 3) := by decide +kernel
theorem F_offOf_d36 : decode (zcode F_offOf) 36 = .ok (.invokevirtual 95, 3) := by decide +kernel
theorem F_offOf_d40 : decode (zcode F_offOf) 40 = .ok (.invokevirtual 98, 3) := by decide +kernel
theorem F_offOf_d54 : decode (zcode F_offOf) 54 = .ok (.ireturn, 1) := by decide +kernel
theorem F_fillOffs_s0 : zseg (zown F_fillOffs) (zcode F_fillOffs) 0 [(.aload_n 1, 1, 0, 0, 0), (.iconst 0, 1, 0, 0, 0)] 2 = true := by decide +kernel
theorem F_fillOffs_s5 : zseg (zown F_fillOffs) (zcode F_fillOffs) 5 [(.iconst 0, 1, 0, 0, 0), (.istore 5, 2, 0, 0, 0)] 8 = true := by decide +kernel
theorem F_fillOffs_s8 : zseg (zown F_fillOffs) (zcode F_fillOffs) 8 [(.iload 5, 2, 0, 0, 0), (.aload_n 0, 1, 0, 0, 0), (.getfield 47, 3, 0, 4, 8)] 14 = true := by decide +kernel
theorem F_fillOffs_s17 : zseg (zown F_fillOffs) (zcode F_fillOffs) 17 [(.iload 4, 2, 0, 0, 0), (.iload 5, 2, 0, 0, 0), (.ishr, 1, 0, 0, 0), (.iconst 1, 1, 1, 0, 0), (.iand, 1, 0, 0, 0)] 24 = true := by decide +kernel
theorem F_fillOffs_s27 : zseg (zown F_fillOffs) (zcode F_fillOffs) 27 [(.aload_n 1, 1, 0, 0, 0), (.aload_n 0, 1, 0, 0, 0), (.getfield 18, 3, 0, 4, 2), (.iload 5, 2, 0, 0, 0), (.iaload, 1, 0, 0, 0), (.dup2, 1, 0, 0, 0), (.iaload, 1, 0, 0, 0), (.aload_n 0, 1, 0, 0, 0), (.iload 5, 2, 0, 0, 0), (.aload_n 0, 1, 0, 0, 0), (.getfield 18, 3, 0, 4, 2), (.iload 5, 2, 0, 0, 0), (.iaload, 1, 0, 0, 0), (.aload_n 0, 1, 0, 0, 0), (.iload 5, 2, 0, 0, 0), (.iload_n 2, 1, 0, 0, 0)] 51 = true := by decide +kernel
theorem F_fillOffs_s54 : zseg (zown F_fillOffs) (zcode F_fillOffs) 54 [(.iload_n 3, 1, 0, 0, 0)] 55 = true := by decide +kernel
theorem F_fillOffs_s58 : zseg (zown F_fillOffs) (zcode F_fillOffs) 58 [(.iadd, 1, 0, 0, 0), (.iastore, 1, 0, 0, 0), (.iinc 5 1, 3, 1, 0, 0), (.goto (-55), 3, 0, 0, 0)] 8 = true := by decide +kernel
theorem F_fillOffs_s60 : zseg (zown F_fillOffs) (zcode F_fillOffs) 60 [(.iinc 5 1, 3, 1, 0, 0), (.goto (-55), 3, 0, 0, 0)] 8 = true := by decide +kernel
theorem F_fillOffs_d2 : decode (zcode F_fillOffs) 2 = .ok (.invokestatic 102, 3) := by decide +kernel
theorem F_fillOffs_d14 : decode (zcode F_fillOffs) 14 = .ok (.if_icmp .ge 52, 3) := by decide +kernel
theorem F_fillOffs_d24 : decode (zcode F_fillOffs) 24 = .ok (.ifCond .ne 36, 3) := by decide +kernel
theorem F_fillOffs_d51 : decode (zcode F_fillOffs) 51 = .ok (.invokevirtual 95, 3) := by decide +kernel
theorem F_fillOffs_d55 : decode (zcode F_fillOffs) 55 = .ok (.invokevirtual 98, 3) := by decide +kernel
theorem F_fillOffs_d66 : decode (zcode F_fillOffs) 66 = .ok (.return_, 1) := by decide +kernel
theorem F_vowsIn_s0 : zseg (zown F_vowsIn) (zcode F_vowsIn) 0 [(.iconst 0, 1, 0, 0, 0), (.istore_n 2, 1, 0, 0, 0), (.iconst 0, 1, 0, 0, 0), (.istore_n 3, 1, 0, 0, 0)] 4 = true := by decide +kernel
theorem F_vowsIn_s4 : zseg (zown F_vowsIn) (zcode F_vowsIn) 4 [(.iload_n 3, 1, 0, 0, 0), (.aload_n 0, 1, 0, 0, 0), (.getfield 47, 3, 0, 4, 8)] 9 = true := by decide +kernel
theorem F_vowsIn_s12 : zseg (zown F_vowsIn) (zcode F_vowsIn) 12 [(.aload_n 0, 1, 0, 0, 0), (.getfield 18, 3, 0, 4, 2), (.iload_n 3, 1, 0, 0, 0), (.iaload, 1, 0, 0, 0), (.iload_n 1, 1, 0, 0, 0)] 19 = true := by decide +kernel
theorem F_vowsIn_s22 : zseg (zown F_vowsIn) (zcode F_vowsIn) 22 [(.iload_n 2, 1, 0, 0, 0), (.iconst 1, 1, 1, 0, 0), (.iload_n 3, 1, 0, 0, 0), (.ishl, 1, 0, 0, 0), (.ior, 1, 0, 0, 0), (.istore_n 2, 1, 0, 0, 0), (.iinc 3 1, 3, 1, 0, 0), (.goto (-27), 3, 0, 0, 0)] 4 = true := by decide +kernel
theorem F_vowsIn_s28 : zseg (zown F_vowsIn) (zcode F_vowsIn) 28 [(.iinc 3 1, 3, 1, 0, 0), (.goto (-27), 3, 0, 0, 0)] 4 = true := by decide +kernel
theorem F_vowsIn_s34 : zseg (zown F_vowsIn) (zcode F_vowsIn) 34 [(.iload_n 2, 1, 0, 0, 0)] 35 = true := by decide +kernel
theorem F_vowsIn_d9 : decode (zcode F_vowsIn) 9 = .ok (.if_icmp .ge 25, 3) := by decide +kernel
theorem F_vowsIn_d19 : decode (zcode F_vowsIn) 19 = .ok (.if_icmp .ne 9, 3) := by decide +kernel
theorem F_vowsIn_d35 : decode (zcode F_vowsIn) 35 = .ok (.ireturn, 1) := by decide +kernel
theorem L_moreBy_s0 : zseg (zown L_moreBy) (zcode L_moreBy) 0 [(.iconst 0, 1, 0, 0, 0), (.istore_n 2, 1, 0, 0, 0), (.iconst 0, 1, 0, 0, 0), (.istore_n 3, 1, 0, 0, 0)] 4 = true := by decide +kernel
theorem L_moreBy_s4 : zseg (zown L_moreBy) (zcode L_moreBy) 4 [(.iload_n 3, 1, 0, 0, 0), (.bipush 12, 2, 12, 0, 0)] 7 = true := by decide +kernel
theorem L_moreBy_s10 : zseg (zown L_moreBy) (zcode L_moreBy) 10 [(.iload_n 1, 1, 0, 0, 0), (.iload_n 3, 1, 0, 0, 0), (.ishr, 1, 0, 0, 0), (.iconst 1, 1, 1, 0, 0), (.iand, 1, 0, 0, 0), (.iconst 1, 1, 1, 0, 0)] 16 = true := by decide +kernel
theorem L_moreBy_s19 : zseg (zown L_moreBy) (zcode L_moreBy) 19 [(.iload_n 2, 1, 0, 0, 0), (.aload_n 0, 1, 0, 0, 0), (.getfield 9, 3, 0, 5, 1), (.iload_n 3, 1, 0, 0, 0), (.iaload, 1, 0, 0, 0), (.iadd, 1, 0, 0, 0), (.istore_n 2, 1, 0, 0, 0), (.iinc 3 1, 3, 1, 0, 0), (.goto (-27), 3, 0, 0, 0)] 4 = true := by decide +kernel
theorem L_moreBy_s28 : zseg (zown L_moreBy) (zcode L_moreBy) 28 [(.iinc 3 1, 3, 1, 0, 0), (.goto (-27), 3, 0, 0, 0)] 4 = true := by decide +kernel
theorem L_moreBy_s34 : zseg (zown L_moreBy) (zcode L_moreBy) 34 [(.iload_n 2, 1, 0, 0, 0)] 35 = true := by decide +kernel
theorem L_moreBy_d7 : decode (zcode L_moreBy) 7 = .ok (.if_icmp .ge 27, 3) := by decide +kernel
theorem L_moreBy_d16 : decode (zcode L_moreBy) 16 = .ok (.if_icmp .ne 12, 3) := by decide +kernel
theorem L_moreBy_d35 : decode (zcode L_moreBy) 35 = .ok (.ireturn, 1) := by decide +kernel
theorem L_nextSet_s0 : zseg (zown L_nextSet) (zcode L_nextSet) 0 [(.iload_n 0, 1, 0, 0, 0), (.iload_n 1, 1, 0, 0, 0), (.isub, 1, 0, 0, 0), (.iload_n 1, 1, 0, 0, 0), (.iand, 1, 0, 0, 0)] 5 = true := by decide +kernel
theorem L_nextSet_d5 : decode (zcode L_nextSet) 5 = .ok (.ireturn, 1) := by decide +kernel
theorem L_winBack_s0 : zseg (zown L_winBack) (zcode L_winBack) 0 [(.iconst 0, 1, 0, 0, 0), (.istore_n 3, 1, 0, 0, 0), (.iconst 0, 1, 0, 0, 0), (.istore 4, 2, 0, 0, 0)] 5 = true := by decide +kernel
theorem L_winBack_s5 : zseg (zown L_winBack) (zcode L_winBack) 5 [(.iload 4, 2, 0, 0, 0), (.aload_n 0, 1, 0, 0, 0), (.getfield 29, 3, 0, 5, 0), (.getfield 33, 3, 0, 4, 7)] 14 = true := by decide +kernel
theorem L_winBack_s17 : zseg (zown L_winBack) (zcode L_winBack) 17 [(.aload_n 0, 1, 0, 0, 0), (.iload 4, 2, 0, 0, 0), (.iload_n 1, 1, 0, 0, 0), (.iload_n 2, 1, 0, 0, 0)] 22 = true := by decide +kernel
theorem L_winBack_s25 : zseg (zown L_winBack) (zcode L_winBack) 25 [(.istore 5, 2, 0, 0, 0), (.iload 5, 2, 0, 0, 0)] 29 = true := by decide +kernel
theorem L_winBack_s32 : zseg (zown L_winBack) (zcode L_winBack) 32 [(.bipush (-2), 2, (-2), 0, 0)] 34 = true := by decide +kernel
theorem L_winBack_s35 : zseg (zown L_winBack) (zcode L_winBack) 35 [(.iload_n 3, 1, 0, 0, 0), (.iload 5, 2, 0, 0, 0), (.ior, 1, 0, 0, 0), (.istore_n 3, 1, 0, 0, 0), (.iinc 4 1, 3, 1, 0, 0), (.goto (-38), 3, 0, 0, 0)] 5 = true := by decide +kernel
theorem L_winBack_s46 : zseg (zown L_winBack) (zcode L_winBack) 46 [(.iload_n 3, 1, 0, 0, 0)] 47 = true := by decide +kernel
theorem L_winBack_d14 : decode (zcode L_winBack) 14 = .ok (.if_icmp .ge 32, 3) := by decide +kernel
theorem L_winBack_d22 : decode (zcode L_winBack) 22 = .ok (.invokevirtual 39, 3) := by decide +kernel
theorem L_winBack_d29 : decode (zcode L_winBack) 29 = .ok (.ifCond .ge 6, 3) := by decide +kernel
theorem L_winBack_d34 : decode (zcode L_winBack) 34 = .ok (.ireturn, 1) := by decide +kernel
theorem L_winBack_d47 : decode (zcode L_winBack) 47 = .ok (.ireturn, 1) := by decide +kernel
theorem L_winBackIn_s0 : zseg (zown L_winBackIn) (zcode L_winBackIn) 0 [(.iconst 0, 1, 0, 0, 0), (.istore 4, 2, 0, 0, 0), (.iconst 0, 1, 0, 0, 0), (.istore 5, 2, 0, 0, 0)] 6 = true := by decide +kernel
theorem L_winBackIn_s6 : zseg (zown L_winBackIn) (zcode L_winBackIn) 6 [(.iload 5, 2, 0, 0, 0), (.aload_n 0, 1, 0, 0, 0), (.getfield 29, 3, 0, 5, 0), (.getfield 43, 3, 0, 4, 8)] 15 = true := by decide +kernel
theorem L_winBackIn_s18 : zseg (zown L_winBackIn) (zcode L_winBackIn) 18 [(.aload_n 0, 1, 0, 0, 0), (.getfield 29, 3, 0, 5, 0), (.getfield 46, 3, 0, 4, 2), (.iload 5, 2, 0, 0, 0), (.iaload, 1, 0, 0, 0), (.iload_n 1, 1, 0, 0, 0)] 29 = true := by decide +kernel
theorem L_winBackIn_s32 : zseg (zown L_winBackIn) (zcode L_winBackIn) 32 [(.aload_n 0, 1, 0, 0, 0), (.getfield 29, 3, 0, 5, 0), (.iload 5, 2, 0, 0, 0), (.iload_n 2, 1, 0, 0, 0)] 39 = true := by decide +kernel
theorem L_winBackIn_s45 : zseg (zown L_winBackIn) (zcode L_winBackIn) 45 [(.iload 4, 2, 0, 0, 0), (.iconst 1, 1, 1, 0, 0), (.iload 5, 2, 0, 0, 0), (.ishl, 1, 0, 0, 0), (.ior, 1, 0, 0, 0), (.istore 4, 2, 0, 0, 0), (.aload_n 0, 1, 0, 0, 0), (.getfield 9, 3, 0, 5, 1), (.iload 5, 2, 0, 0, 0), (.aload_n 0, 1, 0, 0, 0), (.getfield 29, 3, 0, 5, 0), (.iload 5, 2, 0, 0, 0), (.iload_n 1, 1, 0, 0, 0), (.iconst (-1), 1, (-1), 0, 0), (.iload_n 3, 1, 0, 0, 0)] 69 = true := by decide +kernel
theorem L_winBackIn_s72 : zseg (zown L_winBackIn) (zcode L_winBackIn) 72 [(.aload_n 0, 1, 0, 0, 0), (.getfield 29, 3, 0, 5, 0), (.iload 5, 2, 0, 0, 0), (.iload_n 2, 1, 0, 0, 0), (.iload_n 3, 1, 0, 0, 0)] 80 = true := by decide +kernel
theorem L_winBackIn_s83 : zseg (zown L_winBackIn) (zcode L_winBackIn) 83 [(.isub, 1, 0, 0, 0), (.iastore, 1, 0, 0, 0), (.iinc 5 1, 3, 1, 0, 0), (.goto (-82), 3, 0, 0, 0)] 6 = true := by decide +kernel
theorem L_winBackIn_s85 : zseg (zown L_winBackIn) (zcode L_winBackIn) 85 [(.iinc 5 1, 3, 1, 0, 0), (.goto (-82), 3, 0, 0, 0)] 6 = true := by decide +kernel
theorem L_winBackIn_s91 : zseg (zown L_winBackIn) (zcode L_winBackIn) 91 [(.aload_n 0, 1, 0, 0, 0), (.getfield 29, 3, 0, 5, 0), (.iload_n 1, 1, 0, 0, 0), (.iload_n 2, 1, 0, 0, 0), (.iload_n 3, 1, 0, 0, 0)] 98 = true := by decide +kernel
theorem L_winBackIn_s101 : zseg (zown L_winBackIn) (zcode L_winBackIn) 101 [(.istore 5, 2, 0, 0, 0), (.bipush (-2), 2, (-2), 0, 0), (.istore 6, 2, 0, 0, 0), (.bipush 13, 2, 13, 0, 0), (.istore 7, 2, 0, 0, 0), (.iconst 0, 1, 0, 0, 0), (.istore 8, 2, 0, 0, 0), (.iconst 0, 1, 0, 0, 0), (.istore 9, 2, 0, 0, 0)] 117 = true := by decide +kernel
theorem L_winBackIn_s117 : zseg (zown L_winBackIn) (zcode L_winBackIn) 117 [(.iload 9, 2, 0, 0, 0), (.iconst 1, 1, 1, 0, 0), (.iload 4, 2, 0, 0, 0)] 122 = true := by decide +kernel
theorem L_winBackIn_s125 : zseg (zown L_winBackIn) (zcode L_winBackIn) 125 [(.ishl, 1, 0, 0, 0)] 126 = true := by decide +kernel
theorem L_winBackIn_s129 : zseg (zown L_winBackIn) (zcode L_winBackIn) 129 [(.iload 8, 2, 0, 0, 0)] 131 = true := by decide +kernel
theorem L_winBackIn_s134 : zseg (zown L_winBackIn) (zcode L_winBackIn) 134 [(.istore 10, 2, 0, 0, 0), (.iload 10, 2, 0, 0, 0), (.iload 7, 2, 0, 0, 0)] 140 = true := by decide +kernel
theorem L_winBackIn_s143 : zseg (zown L_winBackIn) (zcode L_winBackIn) 143 [(.iload 5, 2, 0, 0, 0), (.aload_n 0, 1, 0, 0, 0), (.iload 8, 2, 0, 0, 0)] 148 = true := by decide +kernel
theorem L_winBackIn_s151 : zseg (zown L_winBackIn) (zcode L_winBackIn) 151 [(.iadd, 1, 0, 0, 0)] 152 = true := by decide +kernel
theorem L_winBackIn_s155 : zseg (zown L_winBackIn) (zcode L_winBackIn) 155 [(.iload 10, 2, 0, 0, 0), (.istore 7, 2, 0, 0, 0), (.iload 8, 2, 0, 0, 0), (.istore 6, 2, 0, 0, 0), (.iload 8, 2, 0, 0, 0), (.iload 4, 2, 0, 0, 0)] 167 = true := by decide +kernel
theorem L_winBackIn_s163 : zseg (zown L_winBackIn) (zcode L_winBackIn) 163 [(.iload 8, 2, 0, 0, 0), (.iload 4, 2, 0, 0, 0)] 167 = true := by decide +kernel
theorem L_winBackIn_s170 : zseg (zown L_winBackIn) (zcode L_winBackIn) 170 [(.istore 8, 2, 0, 0, 0), (.iinc 9 1, 3, 1, 0, 0), (.goto (-58), 3, 0, 0, 0)] 117 = true := by decide +kernel
theorem L_winBackIn_s178 : zseg (zown L_winBackIn) (zcode L_winBackIn) 178 [(.iload 6, 2, 0, 0, 0)] 180 = true := by decide +kernel
theorem L_winBackIn_d15 : decode (zcode L_winBackIn) 15 = .ok (.if_icmp .ge 76, 3) := by decide +kernel
theorem L_winBackIn_d29 : decode (zcode L_winBackIn) 29 = .ok (.if_icmp .ne 56, 3) := by decide +kernel
theorem L_winBackIn_d39 : decode (zcode L_winBackIn) 39 = .ok (.invokevirtual 49, 3) := by decide +kernel
theorem L_winBackIn_d42 : decode (zcode L_winBackIn) 42 = .ok (.ifCond .ne 43, 3) := by decide +kernel
theorem L_winBackIn_d69 : decode (zcode L_winBackIn) 69 = .ok (.invokevirtual 53, 3) := by decide +kernel
theorem L_winBackIn_d80 : decode (zcode L_winBackIn) 80 = .ok (.invokevirtual 57, 3) := by decide +kernel
theorem L_winBackIn_d98 : decode (zcode L_winBackIn) 98 = .ok (.invokevirtual 60, 3) := by decide +kernel
theorem L_winBackIn_d122 : decode (zcode L_winBackIn) 122 = .ok (.invokestatic 63, 3) := by decide +kernel
theorem L_winBackIn_d126 : decode (zcode L_winBackIn) 126 = .ok (.if_icmp .ge 52, 3) := by decide +kernel
theorem L_winBackIn_d131 : decode (zcode L_winBackIn) 131 = .ok (.invokestatic 63, 3) := by decide +kernel
theorem L_winBackIn_d140 : decode (zcode L_winBackIn) 140 = .ok (.if_icmp .ge 23, 3) := by decide +kernel
theorem L_winBackIn_d148 : decode (zcode L_winBackIn) 148 = .ok (.invokevirtual 69, 3) := by decide +kernel
theorem L_winBackIn_d152 : decode (zcode L_winBackIn) 152 = .ok (.ifCond .ne 11, 3) := by decide +kernel
theorem L_winBackIn_d167 : decode (zcode L_winBackIn) 167 = .ok (.invokestatic 72, 3) := by decide +kernel
theorem L_winBackIn_d180 : decode (zcode L_winBackIn) 180 = .ok (.ireturn, 1) := by decide +kernel
theorem L_unheard_s0 : zseg (zown L_unheard) (zcode L_unheard) 0 [(.iconst 0, 1, 0, 0, 0), (.istore_n 3, 1, 0, 0, 0), (.iconst 0, 1, 0, 0, 0), (.istore 4, 2, 0, 0, 0)] 5 = true := by decide +kernel
theorem L_unheard_s5 : zseg (zown L_unheard) (zcode L_unheard) 5 [(.iload 4, 2, 0, 0, 0), (.aload_n 0, 1, 0, 0, 0), (.getfield 29, 3, 0, 5, 0), (.getfield 43, 3, 0, 4, 8)] 14 = true := by decide +kernel
theorem L_unheard_s17 : zseg (zown L_unheard) (zcode L_unheard) 17 [(.aload_n 0, 1, 0, 0, 0), (.getfield 29, 3, 0, 5, 0), (.getfield 46, 3, 0, 4, 2), (.iload 4, 2, 0, 0, 0), (.iaload, 1, 0, 0, 0), (.istore 5, 2, 0, 0, 0), (.aload_n 0, 1, 0, 0, 0), (.getfield 29, 3, 0, 5, 0), (.iload 4, 2, 0, 0, 0), (.iload 5, 2, 0, 0, 0), (.iconst (-1), 1, (-1), 0, 0), (.iload_n 1, 1, 0, 0, 0)] 39 = true := by decide +kernel
theorem L_unheard_s42 : zseg (zown L_unheard) (zcode L_unheard) 42 [(.aload_n 0, 1, 0, 0, 0), (.getfield 29, 3, 0, 5, 0), (.iload 4, 2, 0, 0, 0), (.iload 5, 2, 0, 0, 0), (.iload_n 2, 1, 0, 0, 0), (.iload_n 1, 1, 0, 0, 0)] 52 = true := by decide +kernel
theorem L_unheard_s58 : zseg (zown L_unheard) (zcode L_unheard) 58 [(.iload_n 3, 1, 0, 0, 0), (.iconst 1, 1, 1, 0, 0), (.iload 4, 2, 0, 0, 0), (.ishl, 1, 0, 0, 0), (.ior, 1, 0, 0, 0), (.istore_n 3, 1, 0, 0, 0), (.iinc 4 1, 3, 1, 0, 0), (.goto (-63), 3, 0, 0, 0)] 5 = true := by decide +kernel
theorem L_unheard_s65 : zseg (zown L_unheard) (zcode L_unheard) 65 [(.iinc 4 1, 3, 1, 0, 0), (.goto (-63), 3, 0, 0, 0)] 5 = true := by decide +kernel
theorem L_unheard_s71 : zseg (zown L_unheard) (zcode L_unheard) 71 [(.iload_n 3, 1, 0, 0, 0)] 72 = true := by decide +kernel
theorem L_unheard_d14 : decode (zcode L_unheard) 14 = .ok (.if_icmp .ge 57, 3) := by decide +kernel
theorem L_unheard_d39 : decode (zcode L_unheard) 39 = .ok (.invokevirtual 53, 3) := by decide +kernel
theorem L_unheard_d52 : decode (zcode L_unheard) 52 = .ok (.invokevirtual 53, 3) := by decide +kernel
theorem L_unheard_d55 : decode (zcode L_unheard) 55 = .ok (.if_icmp .ne 10, 3) := by decide +kernel
theorem L_unheard_d72 : decode (zcode L_unheard) 72 = .ok (.ireturn, 1) := by decide +kernel
theorem L_hear_s0 : zseg (zown L_hear) (zcode L_hear) 0 [(.aload_n 0, 1, 0, 0, 0), (.getfield 29, 3, 0, 5, 0), (.iload_n 1, 1, 0, 0, 0)] 5 = true := by decide +kernel
theorem L_hear_s8 : zseg (zown L_hear) (zcode L_hear) 8 [(.istore 6, 2, 0, 0, 0), (.iconst 0, 1, 0, 0, 0), (.istore 7, 2, 0, 0, 0), (.iconst 0, 1, 0, 0, 0), (.istore 8, 2, 0, 0, 0)] 16 = true := by decide +kernel
theorem L_hear_s16 : zseg (zown L_hear) (zcode L_hear) 16 [(.iload 8, 2, 0, 0, 0), (.aload_n 0, 1, 0, 0, 0), (.getfield 29, 3, 0, 5, 0), (.getfield 43, 3, 0, 4, 8)] 25 = true := by decide +kernel
theorem L_hear_s28 : zseg (zown L_hear) (zcode L_hear) 28 [(.iload 6, 2, 0, 0, 0), (.iload 8, 2, 0, 0, 0), (.ishr, 1, 0, 0, 0), (.iconst 1, 1, 1, 0, 0), (.iand, 1, 0, 0, 0), (.iconst 1, 1, 1, 0, 0)] 36 = true := by decide +kernel
theorem L_hear_s39 : zseg (zown L_hear) (zcode L_hear) 39 [(.aload_n 0, 1, 0, 0, 0), (.getfield 29, 3, 0, 5, 0), (.iload 8, 2, 0, 0, 0), (.iload_n 1, 1, 0, 0, 0), (.iconst (-1), 1, (-1), 0, 0), (.iload_n 2, 1, 0, 0, 0)] 48 = true := by decide +kernel
theorem L_hear_s51 : zseg (zown L_hear) (zcode L_hear) 51 [(.istore 9, 2, 0, 0, 0), (.iload 7, 2, 0, 0, 0), (.iload 9, 2, 0, 0, 0), (.iadd, 1, 0, 0, 0), (.istore 7, 2, 0, 0, 0), (.aload_n 0, 1, 0, 0, 0), (.getfield 9, 3, 0, 5, 1), (.iload 8, 2, 0, 0, 0), (.aload_n 0, 1, 0, 0, 0), (.getfield 29, 3, 0, 5, 0), (.iload 8, 2, 0, 0, 0), (.iload_n 1, 1, 0, 0, 0), (.iload_n 3, 1, 0, 0, 0), (.iload_n 2, 1, 0, 0, 0)] 75 = true := by decide +kernel
theorem L_hear_s78 : zseg (zown L_hear) (zcode L_hear) 78 [(.iload 9, 2, 0, 0, 0), (.isub, 1, 0, 0, 0), (.iastore, 1, 0, 0, 0), (.iinc 8 1, 3, 1, 0, 0), (.goto (-69), 3, 0, 0, 0)] 16 = true := by decide +kernel
theorem L_hear_s82 : zseg (zown L_hear) (zcode L_hear) 82 [(.iinc 8 1, 3, 1, 0, 0), (.goto (-69), 3, 0, 0, 0)] 16 = true := by decide +kernel
theorem L_hear_s88 : zseg (zown L_hear) (zcode L_hear) 88 [(.aload_n 0, 1, 0, 0, 0), (.getfield 15, 3, 0, 5, 2), (.iconst 0, 1, 0, 0, 0)] 93 = true := by decide +kernel
theorem L_hear_s96 : zseg (zown L_hear) (zcode L_hear) 96 [(.aload_n 0, 1, 0, 0, 0), (.iconst 0, 1, 0, 0, 0), (.putfield 85, 3, 0, 5, 6), (.aload_n 0, 1, 0, 0, 0), (.iconst 0, 1, 0, 0, 0), (.putfield 88, 3, 0, 5, 7), (.aload_n 0, 1, 0, 0, 0), (.iload 6, 2, 0, 0, 0), (.putfield 91, 3, 0, 5, 8), (.aload_n 0, 1, 0, 0, 0), (.iconst 0, 1, 0, 0, 0), (.putfield 94, 3, 0, 5, 9), (.iconst 0, 1, 0, 0, 0), (.istore 8, 2, 0, 0, 0), (.iconst 0, 1, 0, 0, 0), (.istore 9, 2, 0, 0, 0)] 123 = true := by decide +kernel
theorem L_hear_s123 : zseg (zown L_hear) (zcode L_hear) 123 [(.iload 9, 2, 0, 0, 0), (.iconst 1, 1, 1, 0, 0), (.iload 6, 2, 0, 0, 0)] 128 = true := by decide +kernel
theorem L_hear_s131 : zseg (zown L_hear) (zcode L_hear) 131 [(.ishl, 1, 0, 0, 0)] 132 = true := by decide +kernel
theorem L_hear_s135 : zseg (zown L_hear) (zcode L_hear) 135 [(.iload 7, 2, 0, 0, 0), (.aload_n 0, 1, 0, 0, 0), (.iload 8, 2, 0, 0, 0)] 140 = true := by decide +kernel
theorem L_hear_s143 : zseg (zown L_hear) (zcode L_hear) 143 [(.iadd, 1, 0, 0, 0), (.istore 10, 2, 0, 0, 0), (.iload 4, 2, 0, 0, 0)] 148 = true := by decide +kernel
theorem L_hear_s151 : zseg (zown L_hear) (zcode L_hear) 151 [(.aload_n 0, 1, 0, 0, 0), (.getfield 29, 3, 0, 5, 0), (.getfield 97, 3, 0, 4, 0), (.iload_n 1, 1, 0, 0, 0), (.iaload, 1, 0, 0, 0), (.iload 10, 2, 0, 0, 0), (.iadd, 1, 0, 0, 0), (.iload 5, 2, 0, 0, 0)] 165 = true := by decide +kernel
theorem L_hear_s168 : zseg (zown L_hear) (zcode L_hear) 168 [(.aload_n 0, 1, 0, 0, 0), (.iload 8, 2, 0, 0, 0), (.iload 10, 2, 0, 0, 0)] 173 = true := by decide +kernel
theorem L_hear_s176 : zseg (zown L_hear) (zcode L_hear) 176 [(.iload 8, 2, 0, 0, 0), (.iload 6, 2, 0, 0, 0)] 180 = true := by decide +kernel
theorem L_hear_s183 : zseg (zown L_hear) (zcode L_hear) 183 [(.istore 8, 2, 0, 0, 0), (.iinc 9 1, 3, 1, 0, 0), (.goto (-65), 3, 0, 0, 0)] 123 = true := by decide +kernel
theorem L_hear_d5 : decode (zcode L_hear) 5 = .ok (.invokevirtual 76, 3) := by decide +kernel
theorem L_hear_d25 : decode (zcode L_hear) 25 = .ok (.if_icmp .ge 63, 3) := by decide +kernel
theorem L_hear_d36 : decode (zcode L_hear) 36 = .ok (.if_icmp .ne 46, 3) := by decide +kernel
theorem L_hear_d48 : decode (zcode L_hear) 48 = .ok (.invokevirtual 53, 3) := by decide +kernel
theorem L_hear_d75 : decode (zcode L_hear) 75 = .ok (.invokevirtual 53, 3) := by decide +kernel
theorem L_hear_d93 : decode (zcode L_hear) 93 = .ok (.invokestatic 79, 3) := by decide +kernel
theorem L_hear_d128 : decode (zcode L_hear) 128 = .ok (.invokestatic 63, 3) := by decide +kernel
theorem L_hear_d132 : decode (zcode L_hear) 132 = .ok (.if_icmp .ge 59, 3) := by decide +kernel
theorem L_hear_d140 : decode (zcode L_hear) 140 = .ok (.invokevirtual 69, 3) := by decide +kernel
theorem L_hear_d148 : decode (zcode L_hear) 148 = .ok (.ifCond .eq 20, 3) := by decide +kernel
theorem L_hear_d165 : decode (zcode L_hear) 165 = .ok (.if_icmp .ne 11, 3) := by decide +kernel
theorem L_hear_d173 : decode (zcode L_hear) 173 = .ok (.invokevirtual 100, 3) := by decide +kernel
theorem L_hear_d180 : decode (zcode L_hear) 180 = .ok (.invokestatic 72, 3) := by decide +kernel
theorem L_hear_d191 : decode (zcode L_hear) 191 = .ok (.return_, 1) := by decide +kernel
theorem L_note_s0 : zseg (zown L_note) (zcode L_note) 0 [(.aload_n 0, 1, 0, 0, 0), (.getfield 85, 3, 0, 5, 6)] 4 = true := by decide +kernel
theorem L_note_s7 : zseg (zown L_note) (zcode L_note) 7 [(.aload_n 0, 1, 0, 0, 0), (.iload_n 1, 1, 0, 0, 0), (.putfield 104, 3, 0, 5, 10), (.aload_n 0, 1, 0, 0, 0), (.dup, 1, 0, 0, 0), (.getfield 85, 3, 0, 5, 6), (.iconst 1, 1, 1, 0, 0), (.iadd, 1, 0, 0, 0), (.putfield 85, 3, 0, 5, 6), (.aload_n 0, 1, 0, 0, 0), (.dup, 1, 0, 0, 0), (.getfield 91, 3, 0, 5, 8), (.iload_n 1, 1, 0, 0, 0), (.iand, 1, 0, 0, 0), (.putfield 91, 3, 0, 5, 8), (.aload_n 0, 1, 0, 0, 0), (.dup, 1, 0, 0, 0), (.getfield 94, 3, 0, 5, 9), (.iload_n 1, 1, 0, 0, 0), (.ior, 1, 0, 0, 0), (.putfield 94, 3, 0, 5, 9), (.iload_n 2, 1, 0, 0, 0), (.bipush 108, 2, 108, 0, 0), (.iadd, 1, 0, 0, 0), (.istore_n 3, 1, 0, 0, 0), (.iload_n 3, 1, 0, 0, 0)] 48 = true := by decide +kernel
theorem L_note_s12 : zseg (zown L_note) (zcode L_note) 12 [(.aload_n 0, 1, 0, 0, 0), (.dup, 1, 0, 0, 0), (.getfield 85, 3, 0, 5, 6), (.iconst 1, 1, 1, 0, 0), (.iadd, 1, 0, 0, 0), (.putfield 85, 3, 0, 5, 6), (.aload_n 0, 1, 0, 0, 0), (.dup, 1, 0, 0, 0), (.getfield 91, 3, 0, 5, 8), (.iload_n 1, 1, 0, 0, 0), (.iand, 1, 0, 0, 0), (.putfield 91, 3, 0, 5, 8), (.aload_n 0, 1, 0, 0, 0), (.dup, 1, 0, 0, 0), (.getfield 94, 3, 0, 5, 9), (.iload_n 1, 1, 0, 0, 0), (.ior, 1, 0, 0, 0), (.putfield 94, 3, 0, 5, 9), (.iload_n 2, 1, 0, 0, 0), (.bipush 108, 2, 108, 0, 0), (.iadd, 1, 0, 0, 0), (.istore_n 3, 1, 0, 0, 0), (.iload_n 3, 1, 0, 0, 0)] 48 = true := by decide +kernel
theorem L_note_s51 : zseg (zown L_note) (zcode L_note) 51 [(.iload_n 3, 1, 0, 0, 0), (.aload_n 0, 1, 0, 0, 0), (.getfield 15, 3, 0, 5, 2), (.arraylength, 1, 0, 0, 0)] 57 = true := by decide +kernel
theorem L_note_s60 : zseg (zown L_note) (zcode L_note) 60 [(.aload_n 0, 1, 0, 0, 0), (.getfield 15, 3, 0, 5, 2), (.iload_n 3, 1, 0, 0, 0), (.iaload, 1, 0, 0, 0)] 66 = true := by decide +kernel
theorem L_note_s69 : zseg (zown L_note) (zcode L_note) 69 [(.aload_n 0, 1, 0, 0, 0), (.getfield 15, 3, 0, 5, 2), (.iload_n 3, 1, 0, 0, 0), (.iconst 1, 1, 1, 0, 0), (.iastore, 1, 0, 0, 0), (.aload_n 0, 1, 0, 0, 0), (.dup, 1, 0, 0, 0), (.getfield 88, 3, 0, 5, 7), (.iconst 1, 1, 1, 0, 0), (.iadd, 1, 0, 0, 0), (.putfield 88, 3, 0, 5, 7)] 86 = true := by decide +kernel
theorem L_note_d4 : decode (zcode L_note) 4 = .ok (.ifCond .ne 8, 3) := by decide +kernel
theorem L_note_d48 : decode (zcode L_note) 48 = .ok (.ifCond .lt 38, 3) := by decide +kernel
theorem L_note_d57 : decode (zcode L_note) 57 = .ok (.if_icmp .ge 29, 3) := by decide +kernel
theorem L_note_d66 : decode (zcode L_note) 66 = .ok (.ifCond .ne 20, 3) := by decide +kernel
theorem L_note_d86 : decode (zcode L_note) 86 = .ok (.return_, 1) := by decide +kernel
theorem L_toldOf_s0 : zseg (zown L_toldOf) (zcode L_toldOf) 0 [(.iload_n 2, 1, 0, 0, 0)] 1 = true := by decide +kernel
theorem L_toldOf_s4 : zseg (zown L_toldOf) (zcode L_toldOf) 4 [(.aload_n 0, 1, 0, 0, 0), (.getfield 85, 3, 0, 5, 6)] 8 = true := by decide +kernel
theorem L_toldOf_s9 : zseg (zown L_toldOf) (zcode L_toldOf) 9 [(.aload_n 0, 1, 0, 0, 0), (.getfield 85, 3, 0, 5, 6)] 13 = true := by decide +kernel
theorem L_toldOf_s16 : zseg (zown L_toldOf) (zcode L_toldOf) 16 [(.bipush (-2), 2, (-2), 0, 0)] 18 = true := by decide +kernel
theorem L_toldOf_s19 : zseg (zown L_toldOf) (zcode L_toldOf) 19 [(.iload_n 2, 1, 0, 0, 0)] 20 = true := by decide +kernel
theorem L_toldOf_s48 : zseg (zown L_toldOf) (zcode L_toldOf) 48 [(.aload_n 0, 1, 0, 0, 0), (.getfield 91, 3, 0, 5, 8)] 52 = true := by decide +kernel
theorem L_toldOf_s53 : zseg (zown L_toldOf) (zcode L_toldOf) 53 [(.aload_n 0, 1, 0, 0, 0), (.getfield 29, 3, 0, 5, 0), (.iload_n 1, 1, 0, 0, 0)] 58 = true := by decide +kernel
theorem L_toldOf_s61 : zseg (zown L_toldOf) (zcode L_toldOf) 61 [(.aload_n 0, 1, 0, 0, 0), (.getfield 94, 3, 0, 5, 9), (.iconst (-1), 1, (-1), 0, 0), (.ixor, 1, 0, 0, 0), (.iand, 1, 0, 0, 0)] 68 = true := by decide +kernel
theorem L_toldOf_s69 : zseg (zown L_toldOf) (zcode L_toldOf) 69 [(.aload_n 0, 1, 0, 0, 0), (.getfield 104, 3, 0, 5, 10)] 73 = true := by decide +kernel
theorem L_toldOf_d1 : decode (zcode L_toldOf) 1 = .ok (.ifCond .ne 8, 3) := by decide +kernel
theorem L_toldOf_d8 : decode (zcode L_toldOf) 8 = .ok (.ireturn, 1) := by decide +kernel
theorem L_toldOf_d13 : decode (zcode L_toldOf) 13 = .ok (.ifCond .ne 6, 3) := by decide +kernel
theorem L_toldOf_d18 : decode (zcode L_toldOf) 18 = .ok (.ireturn, 1) := by decide +kernel
theorem L_toldOf_d20 : decode (zcode L_toldOf) 20 = .ok (.lookupswitch 49 #[(1, 28), (2, 33)], 28) := by decide +kernel
theorem L_toldOf_d52 : decode (zcode L_toldOf) 52 = .ok (.ireturn, 1) := by decide +kernel
theorem L_toldOf_d58 : decode (zcode L_toldOf) 58 = .ok (.invokevirtual 76, 3) := by decide +kernel
theorem L_toldOf_d68 : decode (zcode L_toldOf) 68 = .ok (.ireturn, 1) := by decide +kernel
theorem L_toldOf_d73 : decode (zcode L_toldOf) 73 = .ok (.ireturn, 1) := by decide +kernel
theorem L_nextToStrike_s0 : zseg (zown L_nextToStrike) (zcode L_nextToStrike) 0 [(.iconst 1, 1, 1, 0, 0), (.istore 5, 2, 0, 0, 0), (.bipush (-2), 2, (-2), 0, 0), (.istore 6, 2, 0, 0, 0), (.bipush (-2), 2, (-2), 0, 0), (.istore 7, 2, 0, 0, 0), (.iconst 0, 1, 0, 0, 0), (.istore 8, 2, 0, 0, 0)] 14 = true := by decide +kernel
theorem L_nextToStrike_s14 : zseg (zown L_nextToStrike) (zcode L_nextToStrike) 14 [(.iload 8, 2, 0, 0, 0), (.aload_n 0, 1, 0, 0, 0), (.getfield 29, 3, 0, 5, 0), (.getfield 33, 3, 0, 4, 7)] 23 = true := by decide +kernel
theorem L_nextToStrike_s26 : zseg (zown L_nextToStrike) (zcode L_nextToStrike) 26 [(.iload 8, 2, 0, 0, 0), (.aload_n 1, 1, 0, 0, 0), (.getfield 107, 3, 0, 8, 3)] 32 = true := by decide +kernel
theorem L_nextToStrike_s35 : zseg (zown L_nextToStrike) (zcode L_nextToStrike) 35 [(.aload_n 1, 1, 0, 0, 0), (.getfield 110, 3, 0, 8, 0), (.iload 8, 2, 0, 0, 0), (.laload, 1, 0, 0, 0), (.l2i, 1, 0, 0, 0), (.goto 4, 3, 0, 0, 0), (.istore 9, 2, 0, 0, 0), (.aload_n 0, 1, 0, 0, 0), (.iload 8, 2, 0, 0, 0), (.iload_n 2, 1, 0, 0, 0), (.iload_n 3, 1, 0, 0, 0), (.iload 9, 2, 0, 0, 0), (.iconst (-1), 1, (-1), 0, 0)] 57 = true := by decide +kernel
theorem L_nextToStrike_s46 : zseg (zown L_nextToStrike) (zcode L_nextToStrike) 46 [(.iconst (-1), 1, (-1), 0, 0), (.istore 9, 2, 0, 0, 0), (.aload_n 0, 1, 0, 0, 0), (.iload 8, 2, 0, 0, 0), (.iload_n 2, 1, 0, 0, 0), (.iload_n 3, 1, 0, 0, 0), (.iload 9, 2, 0, 0, 0), (.iconst (-1), 1, (-1), 0, 0)] 57 = true := by decide +kernel
theorem L_nextToStrike_s60 : zseg (zown L_nextToStrike) (zcode L_nextToStrike) 60 [(.iconst 1, 1, 1, 0, 0), (.goto 4, 3, 0, 0, 0), (.iload 9, 2, 0, 0, 0)] 67 = true := by decide +kernel
theorem L_nextToStrike_s64 : zseg (zown L_nextToStrike) (zcode L_nextToStrike) 64 [(.iconst 0, 1, 0, 0, 0), (.iload 9, 2, 0, 0, 0)] 67 = true := by decide +kernel
theorem L_nextToStrike_s70 : zseg (zown L_nextToStrike) (zcode L_nextToStrike) 70 [(.iload 5, 2, 0, 0, 0), (.aload_n 0, 1, 0, 0, 0), (.getfield 85, 3, 0, 5, 6), (.imul, 1, 0, 0, 0), (.istore 5, 2, 0, 0, 0), (.aload_n 0, 1, 0, 0, 0), (.getfield 88, 3, 0, 5, 7), (.iload 7, 2, 0, 0, 0)] 85 = true := by decide +kernel
theorem L_nextToStrike_s88 : zseg (zown L_nextToStrike) (zcode L_nextToStrike) 88 [(.aload_n 0, 1, 0, 0, 0), (.getfield 88, 3, 0, 5, 7), (.istore 7, 2, 0, 0, 0), (.iload 8, 2, 0, 0, 0), (.istore 6, 2, 0, 0, 0), (.iinc 8 1, 3, 1, 0, 0), (.goto (-87), 3, 0, 0, 0)] 14 = true := by decide +kernel
theorem L_nextToStrike_s98 : zseg (zown L_nextToStrike) (zcode L_nextToStrike) 98 [(.iinc 8 1, 3, 1, 0, 0), (.goto (-87), 3, 0, 0, 0)] 14 = true := by decide +kernel
theorem L_nextToStrike_s104 : zseg (zown L_nextToStrike) (zcode L_nextToStrike) 104 [(.iload 4, 2, 0, 0, 0)] 106 = true := by decide +kernel
theorem L_nextToStrike_s109 : zseg (zown L_nextToStrike) (zcode L_nextToStrike) 109 [(.iload 5, 2, 0, 0, 0)] 111 = true := by decide +kernel
theorem L_nextToStrike_s112 : zseg (zown L_nextToStrike) (zcode L_nextToStrike) 112 [(.iload 5, 2, 0, 0, 0)] 114 = true := by decide +kernel
theorem L_nextToStrike_s117 : zseg (zown L_nextToStrike) (zcode L_nextToStrike) 117 [(.bipush (-2), 2, (-2), 0, 0)] 119 = true := by decide +kernel
theorem L_nextToStrike_s120 : zseg (zown L_nextToStrike) (zcode L_nextToStrike) 120 [(.iload 4, 2, 0, 0, 0), (.iconst 1, 1, 1, 0, 0)] 123 = true := by decide +kernel
theorem L_nextToStrike_s126 : zseg (zown L_nextToStrike) (zcode L_nextToStrike) 126 [(.iload 6, 2, 0, 0, 0), (.goto 5, 3, 0, 0, 0)] 133 = true := by decide +kernel
theorem L_nextToStrike_s131 : zseg (zown L_nextToStrike) (zcode L_nextToStrike) 131 [(.iload 7, 2, 0, 0, 0)] 133 = true := by decide +kernel
theorem L_nextToStrike_d23 : decode (zcode L_nextToStrike) 23 = .ok (.if_icmp .ge 81, 3) := by decide +kernel
theorem L_nextToStrike_d32 : decode (zcode L_nextToStrike) 32 = .ok (.if_icmp .ge 14, 3) := by decide +kernel
theorem L_nextToStrike_d57 : decode (zcode L_nextToStrike) 57 = .ok (.if_icmp .eq 7, 3) := by decide +kernel
theorem L_nextToStrike_d67 : decode (zcode L_nextToStrike) 67 = .ok (.invokevirtual 114, 3) := by decide +kernel
theorem L_nextToStrike_d85 : decode (zcode L_nextToStrike) 85 = .ok (.if_icmp .le 13, 3) := by decide +kernel
theorem L_nextToStrike_d106 : decode (zcode L_nextToStrike) 106 = .ok (.ifCond .ne 6, 3) := by decide +kernel
theorem L_nextToStrike_d111 : decode (zcode L_nextToStrike) 111 = .ok (.ireturn, 1) := by decide +kernel
theorem L_nextToStrike_d114 : decode (zcode L_nextToStrike) 114 = .ok (.ifCond .ne 6, 3) := by decide +kernel
theorem L_nextToStrike_d119 : decode (zcode L_nextToStrike) 119 = .ok (.ireturn, 1) := by decide +kernel
theorem L_nextToStrike_d123 : decode (zcode L_nextToStrike) 123 = .ok (.if_icmp .ne 8, 3) := by decide +kernel
theorem L_nextToStrike_d133 : decode (zcode L_nextToStrike) 133 = .ok (.ireturn, 1) := by decide +kernel
theorem L_firstNotSo_s0 : zseg (zown L_firstNotSo) (zcode L_firstNotSo) 0 [(.iconst 0, 1, 0, 0, 0), (.istore 5, 2, 0, 0, 0)] 3 = true := by decide +kernel
theorem L_firstNotSo_s3 : zseg (zown L_firstNotSo) (zcode L_firstNotSo) 3 [(.iload 5, 2, 0, 0, 0), (.aload_n 1, 1, 0, 0, 0), (.getfield 107, 3, 0, 8, 3)] 9 = true := by decide +kernel
theorem L_firstNotSo_s12 : zseg (zown L_firstNotSo) (zcode L_firstNotSo) 12 [(.iload_n 3, 1, 0, 0, 0), (.iload 5, 2, 0, 0, 0), (.iadd, 1, 0, 0, 0), (.sipush 998, 3, 998, 0, 0)] 19 = true := by decide +kernel
theorem L_firstNotSo_s22 : zseg (zown L_firstNotSo) (zcode L_firstNotSo) 22 [(.aload_n 0, 1, 0, 0, 0), (.getfield 29, 3, 0, 5, 0), (.getfield 97, 3, 0, 4, 0), (.iload_n 2, 1, 0, 0, 0), (.iaload, 1, 0, 0, 0), (.aload_n 0, 1, 0, 0, 0), (.getfield 29, 3, 0, 5, 0), (.iload_n 2, 1, 0, 0, 0), (.iload_n 3, 1, 0, 0, 0), (.iload 5, 2, 0, 0, 0), (.iadd, 1, 0, 0, 0), (.iload 4, 2, 0, 0, 0)] 42 = true := by decide +kernel
theorem L_firstNotSo_s45 : zseg (zown L_firstNotSo) (zcode L_firstNotSo) 45 [(.iadd, 1, 0, 0, 0), (.i2l, 1, 0, 0, 0), (.aload_n 1, 1, 0, 0, 0), (.getfield 110, 3, 0, 8, 0), (.iload 5, 2, 0, 0, 0), (.laload, 1, 0, 0, 0), (.lcmp, 1, 0, 0, 0)] 55 = true := by decide +kernel
theorem L_firstNotSo_s58 : zseg (zown L_firstNotSo) (zcode L_firstNotSo) 58 [(.iload 5, 2, 0, 0, 0)] 60 = true := by decide +kernel
theorem L_firstNotSo_s61 : zseg (zown L_firstNotSo) (zcode L_firstNotSo) 61 [(.iinc 5 1, 3, 1, 0, 0), (.goto (-61), 3, 0, 0, 0)] 3 = true := by decide +kernel
theorem L_firstNotSo_s67 : zseg (zown L_firstNotSo) (zcode L_firstNotSo) 67 [(.bipush (-2), 2, (-2), 0, 0)] 69 = true := by decide +kernel
theorem L_firstNotSo_d9 : decode (zcode L_firstNotSo) 9 = .ok (.if_icmp .ge 58, 3) := by decide +kernel
theorem L_firstNotSo_d19 : decode (zcode L_firstNotSo) 19 = .ok (.if_icmp .gt 39, 3) := by decide +kernel
theorem L_firstNotSo_d42 : decode (zcode L_firstNotSo) 42 = .ok (.invokevirtual 60, 3) := by decide +kernel
theorem L_firstNotSo_d55 : decode (zcode L_firstNotSo) 55 = .ok (.ifCond .eq 6, 3) := by decide +kernel
theorem L_firstNotSo_d60 : decode (zcode L_firstNotSo) 60 = .ok (.ireturn, 1) := by decide +kernel
theorem L_firstNotSo_d69 : decode (zcode L_firstNotSo) 69 = .ok (.ireturn, 1) := by decide +kernel
theorem L_sinceWhen_s0 : zseg (zown L_sinceWhen) (zcode L_sinceWhen) 0 [(.iload_n 3, 1, 0, 0, 0), (.aload_n 1, 1, 0, 0, 0), (.getfield 107, 3, 0, 8, 3), (.iadd, 1, 0, 0, 0), (.iconst 1, 1, 1, 0, 0), (.isub, 1, 0, 0, 0), (.sipush 998, 3, 998, 0, 0)] 11 = true := by decide +kernel
theorem L_sinceWhen_s14 : zseg (zown L_sinceWhen) (zcode L_sinceWhen) 14 [(.iload 5, 2, 0, 0, 0)] 16 = true := by decide +kernel
theorem L_sinceWhen_s19 : zseg (zown L_sinceWhen) (zcode L_sinceWhen) 19 [(.bipush (-2), 2, (-2), 0, 0), (.goto 4, 3, 0, 0, 0)] 25 = true := by decide +kernel
theorem L_sinceWhen_s24 : zseg (zown L_sinceWhen) (zcode L_sinceWhen) 24 [(.iconst 0, 1, 0, 0, 0)] 25 = true := by decide +kernel
theorem L_sinceWhen_s26 : zseg (zown L_sinceWhen) (zcode L_sinceWhen) 26 [(.bipush (-2), 2, (-2), 0, 0), (.istore 6, 2, 0, 0, 0), (.iconst 0, 1, 0, 0, 0), (.istore 7, 2, 0, 0, 0), (.aload_n 0, 1, 0, 0, 0), (.aload_n 1, 1, 0, 0, 0), (.iload_n 2, 1, 0, 0, 0), (.iload_n 3, 1, 0, 0, 0), (.iload 4, 2, 0, 0, 0)] 39 = true := by decide +kernel
theorem L_sinceWhen_s42 : zseg (zown L_sinceWhen) (zcode L_sinceWhen) 42 [(.iconst 0, 1, 0, 0, 0), (.istore 8, 2, 0, 0, 0)] 45 = true := by decide +kernel
theorem L_sinceWhen_s45 : zseg (zown L_sinceWhen) (zcode L_sinceWhen) 45 [(.iload 8, 2, 0, 0, 0), (.aload_n 0, 1, 0, 0, 0), (.getfield 29, 3, 0, 5, 0), (.getfield 43, 3, 0, 4, 8)] 54 = true := by decide +kernel
theorem L_sinceWhen_s57 : zseg (zown L_sinceWhen) (zcode L_sinceWhen) 57 [(.aload_n 0, 1, 0, 0, 0), (.getfield 29, 3, 0, 5, 0), (.getfield 46, 3, 0, 4, 2), (.iload 8, 2, 0, 0, 0), (.iaload, 1, 0, 0, 0), (.iload_n 2, 1, 0, 0, 0)] 68 = true := by decide +kernel
theorem L_sinceWhen_s71 : zseg (zown L_sinceWhen) (zcode L_sinceWhen) 71 [(.goto 112, 3, 0, 0, 0), (.iinc 8 1, 3, 1, 0, 0), (.goto (-141), 3, 0, 0, 0)] 45 = true := by decide +kernel
theorem L_sinceWhen_s74 : zseg (zown L_sinceWhen) (zcode L_sinceWhen) 74 [(.aload_n 0, 1, 0, 0, 0), (.aload_n 1, 1, 0, 0, 0), (.getfield 107, 3, 0, 8, 3), (.iload 8, 2, 0, 0, 0), (.iload_n 3, 1, 0, 0, 0), (.iload 4, 2, 0, 0, 0)] 84 = true := by decide +kernel
theorem L_sinceWhen_s87 : zseg (zown L_sinceWhen) (zcode L_sinceWhen) 87 [(.aload_n 0, 1, 0, 0, 0), (.iload 8, 2, 0, 0, 0), (.iload_n 3, 1, 0, 0, 0), (.aload_n 1, 1, 0, 0, 0), (.getfield 107, 3, 0, 8, 3), (.iadd, 1, 0, 0, 0), (.iconst 1, 1, 1, 0, 0), (.isub, 1, 0, 0, 0), (.iload 4, 2, 0, 0, 0)] 100 = true := by decide +kernel
theorem L_sinceWhen_s103 : zseg (zown L_sinceWhen) (zcode L_sinceWhen) 103 [(.aload_n 0, 1, 0, 0, 0), (.aload_n 1, 1, 0, 0, 0), (.getfield 107, 3, 0, 8, 3), (.aload_n 0, 1, 0, 0, 0), (.getfield 29, 3, 0, 5, 0), (.iload 8, 2, 0, 0, 0), (.iload_n 2, 1, 0, 0, 0), (.iconst (-1), 1, (-1), 0, 0), (.iload 4, 2, 0, 0, 0)] 118 = true := by decide +kernel
theorem L_sinceWhen_s124 : zseg (zown L_sinceWhen) (zcode L_sinceWhen) 124 [(.istore 9, 2, 0, 0, 0), (.iconst 0, 1, 0, 0, 0), (.istore 10, 2, 0, 0, 0)] 129 = true := by decide +kernel
theorem L_sinceWhen_s129 : zseg (zown L_sinceWhen) (zcode L_sinceWhen) 129 [(.iload 10, 2, 0, 0, 0), (.sipush 999, 3, 999, 0, 0)] 134 = true := by decide +kernel
theorem L_sinceWhen_s137 : zseg (zown L_sinceWhen) (zcode L_sinceWhen) 137 [(.aload_n 0, 1, 0, 0, 0), (.iload 10, 2, 0, 0, 0), (.iload_n 3, 1, 0, 0, 0), (.aload_n 1, 1, 0, 0, 0), (.getfield 107, 3, 0, 8, 3), (.iload 9, 2, 0, 0, 0)] 147 = true := by decide +kernel
theorem L_sinceWhen_s153 : zseg (zown L_sinceWhen) (zcode L_sinceWhen) 153 [(.iinc 7 1, 3, 1, 0, 0), (.iload 6, 2, 0, 0, 0)] 158 = true := by decide +kernel
theorem L_sinceWhen_s161 : zseg (zown L_sinceWhen) (zcode L_sinceWhen) 161 [(.sipush 1000, 3, 1000, 0, 0), (.iload 8, 2, 0, 0, 0), (.imul, 1, 0, 0, 0), (.iload 10, 2, 0, 0, 0), (.iadd, 1, 0, 0, 0), (.goto 5, 3, 0, 0, 0), (.istore 6, 2, 0, 0, 0), (.iinc 10 1, 3, 1, 0, 0), (.goto (-51), 3, 0, 0, 0)] 129 = true := by decide +kernel
theorem L_sinceWhen_s173 : zseg (zown L_sinceWhen) (zcode L_sinceWhen) 173 [(.iload 6, 2, 0, 0, 0), (.istore 6, 2, 0, 0, 0), (.iinc 10 1, 3, 1, 0, 0), (.goto (-51), 3, 0, 0, 0)] 129 = true := by decide +kernel
theorem L_sinceWhen_s177 : zseg (zown L_sinceWhen) (zcode L_sinceWhen) 177 [(.iinc 10 1, 3, 1, 0, 0), (.goto (-51), 3, 0, 0, 0)] 129 = true := by decide +kernel
theorem L_sinceWhen_s183 : zseg (zown L_sinceWhen) (zcode L_sinceWhen) 183 [(.iinc 8 1, 3, 1, 0, 0), (.goto (-141), 3, 0, 0, 0)] 45 = true := by decide +kernel
theorem L_sinceWhen_s189 : zseg (zown L_sinceWhen) (zcode L_sinceWhen) 189 [(.iload 5, 2, 0, 0, 0)] 191 = true := by decide +kernel
theorem L_sinceWhen_s194 : zseg (zown L_sinceWhen) (zcode L_sinceWhen) 194 [(.iload 6, 2, 0, 0, 0), (.goto 5, 3, 0, 0, 0)] 201 = true := by decide +kernel
theorem L_sinceWhen_s199 : zseg (zown L_sinceWhen) (zcode L_sinceWhen) 199 [(.iload 7, 2, 0, 0, 0)] 201 = true := by decide +kernel
theorem L_sinceWhen_d11 : decode (zcode L_sinceWhen) 11 = .ok (.if_icmp .le 15, 3) := by decide +kernel
theorem L_sinceWhen_d16 : decode (zcode L_sinceWhen) 16 = .ok (.ifCond .ne 8, 3) := by decide +kernel
theorem L_sinceWhen_d25 : decode (zcode L_sinceWhen) 25 = .ok (.ireturn, 1) := by decide +kernel
theorem L_sinceWhen_d39 : decode (zcode L_sinceWhen) 39 = .ok (.invokevirtual 118, 3) := by decide +kernel
theorem L_sinceWhen_d54 : decode (zcode L_sinceWhen) 54 = .ok (.if_icmp .ge 135, 3) := by decide +kernel
theorem L_sinceWhen_d68 : decode (zcode L_sinceWhen) 68 = .ok (.if_icmp .eq 6, 3) := by decide +kernel
theorem L_sinceWhen_d84 : decode (zcode L_sinceWhen) 84 = .ok (.invokevirtual 122, 3) := by decide +kernel
theorem L_sinceWhen_d100 : decode (zcode L_sinceWhen) 100 = .ok (.invokevirtual 126, 3) := by decide +kernel
theorem L_sinceWhen_d118 : decode (zcode L_sinceWhen) 118 = .ok (.invokevirtual 53, 3) := by decide +kernel
theorem L_sinceWhen_d121 : decode (zcode L_sinceWhen) 121 = .ok (.invokevirtual 130, 3) := by decide +kernel
theorem L_sinceWhen_d134 : decode (zcode L_sinceWhen) 134 = .ok (.if_icmp .gt 49, 3) := by decide +kernel
theorem L_sinceWhen_d147 : decode (zcode L_sinceWhen) 147 = .ok (.invokevirtual 133, 3) := by decide +kernel
theorem L_sinceWhen_d150 : decode (zcode L_sinceWhen) 150 = .ok (.ifCond .eq 27, 3) := by decide +kernel
theorem L_sinceWhen_d158 : decode (zcode L_sinceWhen) 158 = .ok (.ifCond .ge 15, 3) := by decide +kernel
theorem L_sinceWhen_d191 : decode (zcode L_sinceWhen) 191 = .ok (.ifCond .ne 8, 3) := by decide +kernel
theorem L_sinceWhen_d201 : decode (zcode L_sinceWhen) 201 = .ok (.ireturn, 1) := by decide +kernel
theorem L_fillLeft_s0 : zseg (zown L_fillLeft) (zcode L_fillLeft) 0 [(.iconst 0, 1, 0, 0, 0), (.istore 5, 2, 0, 0, 0)] 3 = true := by decide +kernel
theorem L_fillLeft_s3 : zseg (zown L_fillLeft) (zcode L_fillLeft) 3 [(.iload 5, 2, 0, 0, 0), (.aload_n 1, 1, 0, 0, 0), (.getfield 107, 3, 0, 8, 3)] 9 = true := by decide +kernel
theorem L_fillLeft_s12 : zseg (zown L_fillLeft) (zcode L_fillLeft) 12 [(.aload_n 0, 1, 0, 0, 0), (.getfield 20, 3, 0, 5, 3), (.iload 5, 2, 0, 0, 0), (.aload_n 1, 1, 0, 0, 0), (.getfield 110, 3, 0, 8, 0), (.iload 5, 2, 0, 0, 0), (.laload, 1, 0, 0, 0), (.l2i, 1, 0, 0, 0), (.aload_n 0, 1, 0, 0, 0), (.getfield 29, 3, 0, 5, 0), (.getfield 97, 3, 0, 4, 0), (.iload_n 2, 1, 0, 0, 0), (.iaload, 1, 0, 0, 0), (.isub, 1, 0, 0, 0), (.aload_n 0, 1, 0, 0, 0), (.getfield 29, 3, 0, 5, 0), (.iload_n 2, 1, 0, 0, 0), (.iload_n 3, 1, 0, 0, 0), (.iload 5, 2, 0, 0, 0), (.iadd, 1, 0, 0, 0), (.iload 4, 2, 0, 0, 0)] 47 = true := by decide +kernel
theorem L_fillLeft_s50 : zseg (zown L_fillLeft) (zcode L_fillLeft) 50 [(.isub, 1, 0, 0, 0), (.iastore, 1, 0, 0, 0), (.iinc 5 1, 3, 1, 0, 0), (.goto (-52), 3, 0, 0, 0)] 3 = true := by decide +kernel
theorem L_fillLeft_d9 : decode (zcode L_fillLeft) 9 = .ok (.if_icmp .ge 49, 3) := by decide +kernel
theorem L_fillLeft_d47 : decode (zcode L_fillLeft) 47 = .ok (.invokevirtual 60, 3) := by decide +kernel
theorem L_fillLeft_d58 : decode (zcode L_fillLeft) 58 = .ok (.return_, 1) := by decide +kernel
theorem L_fillDue_s0 : zseg (zown L_fillDue) (zcode L_fillDue) 0 [(.iconst 0, 1, 0, 0, 0), (.istore 5, 2, 0, 0, 0)] 3 = true := by decide +kernel
theorem L_fillDue_s3 : zseg (zown L_fillDue) (zcode L_fillDue) 3 [(.iload 5, 2, 0, 0, 0), (.iload_n 1, 1, 0, 0, 0)] 6 = true := by decide +kernel
theorem L_fillDue_s9 : zseg (zown L_fillDue) (zcode L_fillDue) 9 [(.aload_n 0, 1, 0, 0, 0), (.getfield 23, 3, 0, 5, 4), (.iload 5, 2, 0, 0, 0), (.aload_n 0, 1, 0, 0, 0), (.getfield 20, 3, 0, 5, 3), (.iload 5, 2, 0, 0, 0), (.iaload, 1, 0, 0, 0), (.aload_n 0, 1, 0, 0, 0), (.getfield 29, 3, 0, 5, 0), (.iload_n 2, 1, 0, 0, 0), (.iload_n 3, 1, 0, 0, 0), (.iload 5, 2, 0, 0, 0), (.iadd, 1, 0, 0, 0), (.iload 4, 2, 0, 0, 0)] 33 = true := by decide +kernel
theorem L_fillDue_s36 : zseg (zown L_fillDue) (zcode L_fillDue) 36 [(.iadd, 1, 0, 0, 0), (.iastore, 1, 0, 0, 0), (.iinc 5 1, 3, 1, 0, 0), (.goto (-38), 3, 0, 0, 0)] 3 = true := by decide +kernel
theorem L_fillDue_d6 : decode (zcode L_fillDue) 6 = .ok (.if_icmp .ge 38, 3) := by decide +kernel
theorem L_fillDue_d33 : decode (zcode L_fillDue) 33 = .ok (.invokevirtual 57, 3) := by decide +kernel
theorem L_fillDue_d44 : decode (zcode L_fillDue) 44 = .ok (.return_, 1) := by decide +kernel
theorem L_fillAfter_s0 : zseg (zown L_fillAfter) (zcode L_fillAfter) 0 [(.iconst 0, 1, 0, 0, 0), (.istore 4, 2, 0, 0, 0)] 3 = true := by decide +kernel
theorem L_fillAfter_s3 : zseg (zown L_fillAfter) (zcode L_fillAfter) 3 [(.iload 4, 2, 0, 0, 0), (.iload_n 2, 1, 0, 0, 0)] 6 = true := by decide +kernel
theorem L_fillAfter_s9 : zseg (zown L_fillAfter) (zcode L_fillAfter) 9 [(.iload 4, 2, 0, 0, 0), (.sipush 998, 3, 998, 0, 0)] 14 = true := by decide +kernel
theorem L_fillAfter_s17 : zseg (zown L_fillAfter) (zcode L_fillAfter) 17 [(.aload_n 0, 1, 0, 0, 0), (.getfield 26, 3, 0, 5, 5), (.iload 4, 2, 0, 0, 0), (.aload_n 0, 1, 0, 0, 0), (.getfield 29, 3, 0, 5, 0), (.iload_n 1, 1, 0, 0, 0), (.aload_n 0, 1, 0, 0, 0), (.getfield 29, 3, 0, 5, 0), (.getfield 46, 3, 0, 4, 2), (.iload_n 1, 1, 0, 0, 0), (.iaload, 1, 0, 0, 0), (.iload 4, 2, 0, 0, 0), (.iload_n 3, 1, 0, 0, 0)] 40 = true := by decide +kernel
theorem L_fillAfter_s43 : zseg (zown L_fillAfter) (zcode L_fillAfter) 43 [(.iastore, 1, 0, 0, 0), (.iinc 4 1, 3, 1, 0, 0), (.goto (-44), 3, 0, 0, 0)] 3 = true := by decide +kernel
theorem L_fillAfter_d6 : decode (zcode L_fillAfter) 6 = .ok (.if_icmp .gt 44, 3) := by decide +kernel
theorem L_fillAfter_d14 : decode (zcode L_fillAfter) 14 = .ok (.if_icmp .gt 36, 3) := by decide +kernel
theorem L_fillAfter_d40 : decode (zcode L_fillAfter) 40 = .ok (.invokevirtual 53, 3) := by decide +kernel
theorem L_fillAfter_d50 : decode (zcode L_fillAfter) 50 = .ok (.return_, 1) := by decide +kernel
theorem L_leadKept_s0 : zseg (zown L_leadKept) (zcode L_leadKept) 0 [(.iconst 0, 1, 0, 0, 0), (.istore_n 3, 1, 0, 0, 0)] 2 = true := by decide +kernel
theorem L_leadKept_s2 : zseg (zown L_leadKept) (zcode L_leadKept) 2 [(.iload_n 3, 1, 0, 0, 0), (.iload_n 1, 1, 0, 0, 0)] 4 = true := by decide +kernel
theorem L_leadKept_s7 : zseg (zown L_leadKept) (zcode L_leadKept) 7 [(.aload_n 0, 1, 0, 0, 0), (.getfield 23, 3, 0, 5, 4), (.iload_n 3, 1, 0, 0, 0), (.iaload, 1, 0, 0, 0), (.iload_n 2, 1, 0, 0, 0)] 14 = true := by decide +kernel
theorem L_leadKept_s17 : zseg (zown L_leadKept) (zcode L_leadKept) 17 [(.iinc 3 1, 3, 1, 0, 0), (.goto (-18), 3, 0, 0, 0)] 2 = true := by decide +kernel
theorem L_leadKept_s23 : zseg (zown L_leadKept) (zcode L_leadKept) 23 [(.iload_n 3, 1, 0, 0, 0)] 24 = true := by decide +kernel
theorem L_leadKept_d4 : decode (zcode L_leadKept) 4 = .ok (.if_icmp .ge 19, 3) := by decide +kernel
theorem L_leadKept_d14 : decode (zcode L_leadKept) 14 = .ok (.if_icmp .ne 9, 3) := by decide +kernel
theorem L_leadKept_d24 : decode (zcode L_leadKept) 24 = .ok (.ireturn, 1) := by decide +kernel
theorem L_isSince_s0 : zseg (zown L_isSince) (zcode L_isSince) 0 [(.iload_n 1, 1, 0, 0, 0), (.iload_n 2, 1, 0, 0, 0), (.isub, 1, 0, 0, 0), (.iconst 0, 1, 0, 0, 0)] 4 = true := by decide +kernel
theorem L_isSince_s7 : zseg (zown L_isSince) (zcode L_isSince) 7 [(.iload_n 3, 1, 0, 0, 0)] 8 = true := by decide +kernel
theorem L_isSince_s11 : zseg (zown L_isSince) (zcode L_isSince) 11 [(.istore 5, 2, 0, 0, 0), (.iload 5, 2, 0, 0, 0), (.iload 4, 2, 0, 0, 0)] 17 = true := by decide +kernel
theorem L_isSince_s20 : zseg (zown L_isSince) (zcode L_isSince) 20 [(.iconst 0, 1, 0, 0, 0)] 21 = true := by decide +kernel
theorem L_isSince_s22 : zseg (zown L_isSince) (zcode L_isSince) 22 [(.iload 5, 2, 0, 0, 0), (.istore 6, 2, 0, 0, 0)] 26 = true := by decide +kernel
theorem L_isSince_s26 : zseg (zown L_isSince) (zcode L_isSince) 26 [(.iload 6, 2, 0, 0, 0), (.iload_n 3, 1, 0, 0, 0)] 29 = true := by decide +kernel
theorem L_isSince_s32 : zseg (zown L_isSince) (zcode L_isSince) 32 [(.aload_n 0, 1, 0, 0, 0), (.getfield 23, 3, 0, 5, 4), (.iload 6, 2, 0, 0, 0), (.iaload, 1, 0, 0, 0), (.aload_n 0, 1, 0, 0, 0), (.getfield 26, 3, 0, 5, 5), (.iload_n 2, 1, 0, 0, 0), (.iload 6, 2, 0, 0, 0), (.iadd, 1, 0, 0, 0), (.iload_n 1, 1, 0, 0, 0), (.isub, 1, 0, 0, 0), (.iaload, 1, 0, 0, 0)] 50 = true := by decide +kernel
theorem L_isSince_s53 : zseg (zown L_isSince) (zcode L_isSince) 53 [(.iconst 0, 1, 0, 0, 0)] 54 = true := by decide +kernel
theorem L_isSince_s55 : zseg (zown L_isSince) (zcode L_isSince) 55 [(.iinc 6 1, 3, 1, 0, 0), (.goto (-32), 3, 0, 0, 0)] 26 = true := by decide +kernel
theorem L_isSince_s61 : zseg (zown L_isSince) (zcode L_isSince) 61 [(.iconst 1, 1, 1, 0, 0)] 62 = true := by decide +kernel
theorem L_isSince_d4 : decode (zcode L_isSince) 4 = .ok (.invokestatic 137, 3) := by decide +kernel
theorem L_isSince_d8 : decode (zcode L_isSince) 8 = .ok (.invokestatic 142, 3) := by decide +kernel
theorem L_isSince_d17 : decode (zcode L_isSince) 17 = .ok (.if_icmp .le 5, 3) := by decide +kernel
theorem L_isSince_d21 : decode (zcode L_isSince) 21 = .ok (.ireturn, 1) := by decide +kernel
theorem L_isSince_d29 : decode (zcode L_isSince) 29 = .ok (.if_icmp .ge 32, 3) := by decide +kernel
theorem L_isSince_d50 : decode (zcode L_isSince) 50 = .ok (.if_icmp .eq 5, 3) := by decide +kernel
theorem L_isSince_d54 : decode (zcode L_isSince) 54 = .ok (.ireturn, 1) := by decide +kernel
theorem L_isSince_d62 : decode (zcode L_isSince) 62 = .ok (.ireturn, 1) := by decide +kernel
theorem P_add_s0 : zseg (zown P_add) (zcode P_add) 0 [(.aload_n 0, 1, 0, 0, 0), (.getfield 24, 3, 0, 6, 4), (.bipush 121, 2, 121, 0, 0)] 6 = true := by decide +kernel
theorem P_add_s9 : zseg (zown P_add) (zcode P_add) 9 [(.aload_n 0, 1, 0, 0, 0), (.getfield 11, 3, 0, 6, 0), (.aload_n 0, 1, 0, 0, 0), (.getfield 24, 3, 0, 6, 4), (.iload_n 1, 1, 0, 0, 0), (.iastore, 1, 0, 0, 0), (.aload_n 0, 1, 0, 0, 0), (.getfield 15, 3, 0, 6, 1), (.aload_n 0, 1, 0, 0, 0), (.getfield 24, 3, 0, 6, 4), (.iload_n 2, 1, 0, 0, 0), (.iastore, 1, 0, 0, 0), (.aload_n 0, 1, 0, 0, 0), (.dup, 1, 0, 0, 0), (.getfield 24, 3, 0, 6, 4), (.iconst 1, 1, 1, 0, 0), (.iadd, 1, 0, 0, 0), (.putfield 24, 3, 0, 6, 4)] 39 = true := by decide +kernel
theorem P_add_d6 : decode (zcode P_add) 6 = .ok (.if_icmp .ge 33, 3) := by decide +kernel
theorem P_add_d39 : decode (zcode P_add) 39 = .ok (.return_, 1) := by decide +kernel
theorem P_tell_s0 : zseg (zown P_tell) (zcode P_tell) 0 [(.aload_n 0, 1, 0, 0, 0), (.getfield 21, 3, 0, 6, 3), (.iconst 0, 1, 0, 0, 0), (.iload_n 1, 1, 0, 0, 0), (.iastore, 1, 0, 0, 0), (.aload_n 0, 1, 0, 0, 0), (.getfield 21, 3, 0, 6, 3), (.iconst 1, 1, 1, 0, 0), (.iload_n 2, 1, 0, 0, 0), (.iastore, 1, 0, 0, 0), (.aload_n 0, 1, 0, 0, 0), (.getfield 21, 3, 0, 6, 3), (.iconst 2, 1, 2, 0, 0), (.iload_n 3, 1, 0, 0, 0), (.iastore, 1, 0, 0, 0), (.aload_n 0, 1, 0, 0, 0), (.getfield 21, 3, 0, 6, 3), (.iconst 3, 1, 3, 0, 0), (.iload 4, 2, 0, 0, 0), (.iastore, 1, 0, 0, 0), (.aload_n 0, 1, 0, 0, 0), (.getfield 21, 3, 0, 6, 3), (.iconst 4, 1, 4, 0, 0), (.iload 5, 2, 0, 0, 0), (.iastore, 1, 0, 0, 0), (.aload_n 0, 1, 0, 0, 0), (.getfield 21, 3, 0, 6, 3), (.iconst 5, 1, 5, 0, 0), (.iload 6, 2, 0, 0, 0), (.iastore, 1, 0, 0, 0)] 45 = true := by decide +kernel
theorem P_tell_d45 : decode (zcode P_tell) 45 = .ok (.return_, 1) := by decide +kernel
theorem P_value_s0 : zseg (zown P_value) (zcode P_value) 0 [(.iconst 0, 1, 0, 0, 0), (.istore_n 1, 1, 0, 0, 0), (.iconst 0, 1, 0, 0, 0), (.istore_n 2, 1, 0, 0, 0), (.iconst 0, 1, 0, 0, 0), (.istore_n 3, 1, 0, 0, 0)] 6 = true := by decide +kernel
theorem P_value_s6 : zseg (zown P_value) (zcode P_value) 6 [(.iload_n 3, 1, 0, 0, 0), (.aload_n 0, 1, 0, 0, 0), (.getfield 24, 3, 0, 6, 4)] 11 = true := by decide +kernel
theorem P_value_s14 : zseg (zown P_value) (zcode P_value) 14 [(.iload_n 2, 1, 0, 0, 0)] 15 = true := by decide +kernel
theorem P_value_s18 : zseg (zown P_value) (zcode P_value) 18 [(.iload_n 2, 1, 0, 0, 0), (.aload_n 0, 1, 0, 0, 0), (.getfield 24, 3, 0, 6, 4)] 23 = true := by decide +kernel
theorem P_value_s26 : zseg (zown P_value) (zcode P_value) 26 [(.aload_n 0, 1, 0, 0, 0), (.getfield 11, 3, 0, 6, 0), (.iload_n 2, 1, 0, 0, 0), (.iaload, 1, 0, 0, 0), (.istore 4, 2, 0, 0, 0), (.aload_n 0, 1, 0, 0, 0), (.getfield 15, 3, 0, 6, 1), (.iload_n 2, 1, 0, 0, 0), (.iaload, 1, 0, 0, 0), (.istore 5, 2, 0, 0, 0), (.iinc 2 1, 3, 1, 0, 0), (.iload 4, 2, 0, 0, 0), (.bipush 35, 2, 35, 0, 0)] 49 = true := by decide +kernel
theorem P_value_s52 : zseg (zown P_value) (zcode P_value) 52 [(.iload 4, 2, 0, 0, 0), (.bipush 97, 2, 97, 0, 0)] 56 = true := by decide +kernel
theorem P_value_s59 : zseg (zown P_value) (zcode P_value) 59 [(.iload_n 1, 1, 0, 0, 0), (.bipush 121, 2, 121, 0, 0)] 62 = true := by decide +kernel
theorem P_value_s65 : zseg (zown P_value) (zcode P_value) 65 [(.aload_n 0, 1, 0, 0, 0), (.getfield 18, 3, 0, 6, 2), (.iload_n 1, 1, 0, 0, 0), (.iload 4, 2, 0, 0, 0), (.bipush 35, 2, 35, 0, 0)] 74 = true := by decide +kernel
theorem P_value_s77 : zseg (zown P_value) (zcode P_value) 77 [(.iload 5, 2, 0, 0, 0), (.goto 9, 3, 0, 0, 0), (.iastore, 1, 0, 0, 0), (.iinc 1 1, 3, 1, 0, 0), (.goto 132, 3, 0, 0, 0), (.iinc 3 1, 3, 1, 0, 0), (.goto (-221), 3, 0, 0, 0)] 6 = true := by decide +kernel
theorem P_value_s82 : zseg (zown P_value) (zcode P_value) 82 [(.aload_n 0, 1, 0, 0, 0), (.iload 5, 2, 0, 0, 0)] 85 = true := by decide +kernel
theorem P_value_s88 : zseg (zown P_value) (zcode P_value) 88 [(.iastore, 1, 0, 0, 0), (.iinc 1 1, 3, 1, 0, 0), (.goto 132, 3, 0, 0, 0), (.iinc 3 1, 3, 1, 0, 0), (.goto (-221), 3, 0, 0, 0)] 6 = true := by decide +kernel
theorem P_value_s95 : zseg (zown P_value) (zcode P_value) 95 [(.iload_n 1, 1, 0, 0, 0), (.iconst 1, 1, 1, 0, 0)] 97 = true := by decide +kernel
theorem P_value_s100 : zseg (zown P_value) (zcode P_value) 100 [(.iconst 0, 1, 0, 0, 0)] 101 = true := by decide +kernel
theorem P_value_s102 : zseg (zown P_value) (zcode P_value) 102 [(.iinc 1 (-1), 3, (-1), 0, 0), (.aload_n 0, 1, 0, 0, 0), (.getfield 18, 3, 0, 6, 2), (.iload_n 1, 1, 0, 0, 0), (.iaload, 1, 0, 0, 0), (.istore 6, 2, 0, 0, 0), (.iload 4, 2, 0, 0, 0), (.bipush 59, 2, 59, 0, 0)] 117 = true := by decide +kernel
theorem P_value_s120 : zseg (zown P_value) (zcode P_value) 120 [(.iload 6, 2, 0, 0, 0)] 122 = true := by decide +kernel
theorem P_value_s123 : zseg (zown P_value) (zcode P_value) 123 [(.iload 4, 2, 0, 0, 0), (.bipush 63, 2, 63, 0, 0)] 127 = true := by decide +kernel
theorem P_value_s130 : zseg (zown P_value) (zcode P_value) 130 [(.iload 6, 2, 0, 0, 0)] 132 = true := by decide +kernel
theorem P_value_s135 : zseg (zown P_value) (zcode P_value) 135 [(.iload_n 2, 1, 0, 0, 0), (.goto 5, 3, 0, 0, 0), (.istore_n 2, 1, 0, 0, 0), (.goto 82, 3, 0, 0, 0), (.iinc 3 1, 3, 1, 0, 0), (.goto (-221), 3, 0, 0, 0)] 6 = true := by decide +kernel
theorem P_value_s139 : zseg (zown P_value) (zcode P_value) 139 [(.iload 5, 2, 0, 0, 0), (.istore_n 2, 1, 0, 0, 0), (.goto 82, 3, 0, 0, 0), (.iinc 3 1, 3, 1, 0, 0), (.goto (-221), 3, 0, 0, 0)] 6 = true := by decide +kernel
theorem P_value_s145 : zseg (zown P_value) (zcode P_value) 145 [(.iload 4, 2, 0, 0, 0), (.bipush 126, 2, 126, 0, 0)] 149 = true := by decide +kernel
theorem P_value_s152 : zseg (zown P_value) (zcode P_value) 152 [(.iload 4, 2, 0, 0, 0), (.bipush 33, 2, 33, 0, 0)] 156 = true := by decide +kernel
theorem P_value_s159 : zseg (zown P_value) (zcode P_value) 159 [(.aload_n 0, 1, 0, 0, 0), (.getfield 18, 3, 0, 6, 2), (.iload_n 1, 1, 0, 0, 0), (.iload 4, 2, 0, 0, 0), (.bipush 126, 2, 126, 0, 0)] 168 = true := by decide +kernel
theorem P_value_s171 : zseg (zown P_value) (zcode P_value) 171 [(.iload 6, 2, 0, 0, 0), (.ineg, 1, 0, 0, 0), (.goto 16, 3, 0, 0, 0), (.iastore, 1, 0, 0, 0), (.iinc 1 1, 3, 1, 0, 0), (.goto 30, 3, 0, 0, 0), (.iinc 3 1, 3, 1, 0, 0), (.goto (-221), 3, 0, 0, 0)] 6 = true := by decide +kernel
theorem P_value_s177 : zseg (zown P_value) (zcode P_value) 177 [(.iload 6, 2, 0, 0, 0)] 179 = true := by decide +kernel
theorem P_value_s182 : zseg (zown P_value) (zcode P_value) 182 [(.iconst 1, 1, 1, 0, 0), (.goto 4, 3, 0, 0, 0)] 187 = true := by decide +kernel
theorem P_value_s186 : zseg (zown P_value) (zcode P_value) 186 [(.iconst 0, 1, 0, 0, 0)] 187 = true := by decide +kernel
theorem P_value_s190 : zseg (zown P_value) (zcode P_value) 190 [(.iastore, 1, 0, 0, 0), (.iinc 1 1, 3, 1, 0, 0), (.goto 30, 3, 0, 0, 0), (.iinc 3 1, 3, 1, 0, 0), (.goto (-221), 3, 0, 0, 0)] 6 = true := by decide +kernel
theorem P_value_s197 : zseg (zown P_value) (zcode P_value) 197 [(.iload_n 1, 1, 0, 0, 0)] 198 = true := by decide +kernel
theorem P_value_s201 : zseg (zown P_value) (zcode P_value) 201 [(.aload_n 0, 1, 0, 0, 0), (.getfield 18, 3, 0, 6, 2), (.iload_n 1, 1, 0, 0, 0), (.iconst 1, 1, 1, 0, 0), (.isub, 1, 0, 0, 0), (.iload 4, 2, 0, 0, 0), (.aload_n 0, 1, 0, 0, 0), (.getfield 18, 3, 0, 6, 2), (.iload_n 1, 1, 0, 0, 0), (.iconst 1, 1, 1, 0, 0), (.isub, 1, 0, 0, 0), (.iaload, 1, 0, 0, 0), (.iload 6, 2, 0, 0, 0)] 220 = true := by decide +kernel
theorem P_value_s223 : zseg (zown P_value) (zcode P_value) 223 [(.iastore, 1, 0, 0, 0), (.iinc 3 1, 3, 1, 0, 0), (.goto (-221), 3, 0, 0, 0)] 6 = true := by decide +kernel
theorem P_value_s224 : zseg (zown P_value) (zcode P_value) 224 [(.iinc 3 1, 3, 1, 0, 0), (.goto (-221), 3, 0, 0, 0)] 6 = true := by decide +kernel
theorem P_value_s230 : zseg (zown P_value) (zcode P_value) 230 [(.iconst 0, 1, 0, 0, 0)] 231 = true := by decide +kernel
theorem P_value_d11 : decode (zcode P_value) 11 = .ok (.if_icmp .ge 219, 3) := by decide +kernel
theorem P_value_d15 : decode (zcode P_value) 15 = .ok (.ifCond .lt 215, 3) := by decide +kernel
theorem P_value_d23 : decode (zcode P_value) 23 = .ok (.if_icmp .ge 207, 3) := by decide +kernel
theorem P_value_d49 : decode (zcode P_value) 49 = .ok (.if_icmp .eq 10, 3) := by decide +kernel
theorem P_value_d56 : decode (zcode P_value) 56 = .ok (.if_icmp .ne 39, 3) := by decide +kernel
theorem P_value_d62 : decode (zcode P_value) 62 = .ok (.if_icmp .ge 162, 3) := by decide +kernel
theorem P_value_d74 : decode (zcode P_value) 74 = .ok (.if_icmp .ne 8, 3) := by decide +kernel
theorem P_value_d85 : decode (zcode P_value) 85 = .ok (.invokevirtual 28, 3) := by decide +kernel
theorem P_value_d97 : decode (zcode P_value) 97 = .ok (.if_icmp .ge 5, 3) := by decide +kernel
theorem P_value_d101 : decode (zcode P_value) 101 = .ok (.ireturn, 1) := by decide +kernel
theorem P_value_d117 : decode (zcode P_value) 117 = .ok (.if_icmp .ne 6, 3) := by decide +kernel
theorem P_value_d122 : decode (zcode P_value) 122 = .ok (.ireturn, 1) := by decide +kernel
theorem P_value_d127 : decode (zcode P_value) 127 = .ok (.if_icmp .ne 18, 3) := by decide +kernel
theorem P_value_d132 : decode (zcode P_value) 132 = .ok (.ifCond .eq 7, 3) := by decide +kernel
theorem P_value_d149 : decode (zcode P_value) 149 = .ok (.if_icmp .eq 10, 3) := by decide +kernel
theorem P_value_d156 : decode (zcode P_value) 156 = .ok (.if_icmp .ne 41, 3) := by decide +kernel
theorem P_value_d168 : decode (zcode P_value) 168 = .ok (.if_icmp .ne 9, 3) := by decide +kernel
theorem P_value_d179 : decode (zcode P_value) 179 = .ok (.ifCond .ne 7, 3) := by decide +kernel
theorem P_value_d187 : decode (zcode P_value) 187 = .ok (.invokestatic 32, 3) := by decide +kernel
theorem P_value_d198 : decode (zcode P_value) 198 = .ok (.ifCond .le 26, 3) := by decide +kernel
theorem P_value_d220 : decode (zcode P_value) 220 = .ok (.invokestatic 38, 3) := by decide +kernel
theorem P_value_d231 : decode (zcode P_value) 231 = .ok (.ireturn, 1) := by decide +kernel
theorem P_toldAs_s0 : zseg (zown P_toldAs) (zcode P_toldAs) 0 [(.iload_n 1, 1, 0, 0, 0)] 1 = true := by decide +kernel
theorem P_toldAs_s4 : zseg (zown P_toldAs) (zcode P_toldAs) 4 [(.iload_n 1, 1, 0, 0, 0), (.aload_n 0, 1, 0, 0, 0), (.getfield 21, 3, 0, 6, 3), (.arraylength, 1, 0, 0, 0)] 10 = true := by decide +kernel
theorem P_toldAs_s13 : zseg (zown P_toldAs) (zcode P_toldAs) 13 [(.aload_n 0, 1, 0, 0, 0), (.getfield 21, 3, 0, 6, 3), (.iload_n 1, 1, 0, 0, 0), (.iaload, 1, 0, 0, 0), (.goto 4, 3, 0, 0, 0)] 23 = true := by decide +kernel
theorem P_toldAs_s22 : zseg (zown P_toldAs) (zcode P_toldAs) 22 [(.iconst 0, 1, 0, 0, 0)] 23 = true := by decide +kernel
theorem P_toldAs_d1 : decode (zcode P_toldAs) 1 = .ok (.ifCond .lt 21, 3) := by decide +kernel
theorem P_toldAs_d10 : decode (zcode P_toldAs) 10 = .ok (.if_icmp .ge 12, 3) := by decide +kernel
theorem P_toldAs_d23 : decode (zcode P_toldAs) 23 = .ok (.ireturn, 1) := by decide +kernel
theorem P_joined_s0 : zseg (zown P_joined) (zcode P_joined) 0 [(.iload_n 0, 1, 0, 0, 0)] 1 = true := by decide +kernel
theorem P_joined_s84 : zseg (zown P_joined) (zcode P_joined) 84 [(.iload_n 1, 1, 0, 0, 0)] 85 = true := by decide +kernel
theorem P_joined_s88 : zseg (zown P_joined) (zcode P_joined) 88 [(.iload_n 2, 1, 0, 0, 0)] 89 = true := by decide +kernel
theorem P_joined_s92 : zseg (zown P_joined) (zcode P_joined) 92 [(.iconst 1, 1, 1, 0, 0), (.goto 4, 3, 0, 0, 0)] 97 = true := by decide +kernel
theorem P_joined_s96 : zseg (zown P_joined) (zcode P_joined) 96 [(.iconst 0, 1, 0, 0, 0)] 97 = true := by decide +kernel
theorem P_joined_s101 : zseg (zown P_joined) (zcode P_joined) 101 [(.iload_n 1, 1, 0, 0, 0)] 102 = true := by decide +kernel
theorem P_joined_s105 : zseg (zown P_joined) (zcode P_joined) 105 [(.iload_n 2, 1, 0, 0, 0)] 106 = true := by decide +kernel
theorem P_joined_s109 : zseg (zown P_joined) (zcode P_joined) 109 [(.iconst 1, 1, 1, 0, 0), (.goto 4, 3, 0, 0, 0)] 114 = true := by decide +kernel
theorem P_joined_s113 : zseg (zown P_joined) (zcode P_joined) 113 [(.iconst 0, 1, 0, 0, 0)] 114 = true := by decide +kernel
theorem P_joined_s118 : zseg (zown P_joined) (zcode P_joined) 118 [(.iload_n 1, 1, 0, 0, 0), (.iload_n 2, 1, 0, 0, 0)] 120 = true := by decide +kernel
theorem P_joined_s123 : zseg (zown P_joined) (zcode P_joined) 123 [(.iconst 1, 1, 1, 0, 0), (.goto 4, 3, 0, 0, 0)] 128 = true := by decide +kernel
theorem P_joined_s127 : zseg (zown P_joined) (zcode P_joined) 127 [(.iconst 0, 1, 0, 0, 0)] 128 = true := by decide +kernel
theorem P_joined_s132 : zseg (zown P_joined) (zcode P_joined) 132 [(.iload_n 1, 1, 0, 0, 0), (.iload_n 2, 1, 0, 0, 0)] 134 = true := by decide +kernel
theorem P_joined_s137 : zseg (zown P_joined) (zcode P_joined) 137 [(.iconst 1, 1, 1, 0, 0), (.goto 4, 3, 0, 0, 0)] 142 = true := by decide +kernel
theorem P_joined_s141 : zseg (zown P_joined) (zcode P_joined) 141 [(.iconst 0, 1, 0, 0, 0)] 142 = true := by decide +kernel
theorem P_joined_s146 : zseg (zown P_joined) (zcode P_joined) 146 [(.iload_n 1, 1, 0, 0, 0), (.iload_n 2, 1, 0, 0, 0)] 148 = true := by decide +kernel
theorem P_joined_s151 : zseg (zown P_joined) (zcode P_joined) 151 [(.iconst 1, 1, 1, 0, 0), (.goto 4, 3, 0, 0, 0)] 156 = true := by decide +kernel
theorem P_joined_s155 : zseg (zown P_joined) (zcode P_joined) 155 [(.iconst 0, 1, 0, 0, 0)] 156 = true := by decide +kernel
theorem P_joined_s160 : zseg (zown P_joined) (zcode P_joined) 160 [(.iload_n 1, 1, 0, 0, 0), (.iload_n 2, 1, 0, 0, 0), (.iadd, 1, 0, 0, 0)] 163 = true := by decide +kernel
theorem P_joined_s164 : zseg (zown P_joined) (zcode P_joined) 164 [(.iload_n 1, 1, 0, 0, 0), (.iload_n 2, 1, 0, 0, 0), (.isub, 1, 0, 0, 0)] 167 = true := by decide +kernel
theorem P_joined_s168 : zseg (zown P_joined) (zcode P_joined) 168 [(.iload_n 1, 1, 0, 0, 0), (.iload_n 2, 1, 0, 0, 0), (.imul, 1, 0, 0, 0)] 171 = true := by decide +kernel
theorem P_joined_s172 : zseg (zown P_joined) (zcode P_joined) 172 [(.iload_n 2, 1, 0, 0, 0)] 173 = true := by decide +kernel
theorem P_joined_s176 : zseg (zown P_joined) (zcode P_joined) 176 [(.iconst 0, 1, 0, 0, 0), (.goto 6, 3, 0, 0, 0)] 183 = true := by decide +kernel
theorem P_joined_s180 : zseg (zown P_joined) (zcode P_joined) 180 [(.iload_n 1, 1, 0, 0, 0), (.iload_n 2, 1, 0, 0, 0), (.idiv, 1, 0, 0, 0)] 183 = true := by decide +kernel
theorem P_joined_s184 : zseg (zown P_joined) (zcode P_joined) 184 [(.iload_n 2, 1, 0, 0, 0)] 185 = true := by decide +kernel
theorem P_joined_s188 : zseg (zown P_joined) (zcode P_joined) 188 [(.iconst 0, 1, 0, 0, 0), (.goto 6, 3, 0, 0, 0)] 195 = true := by decide +kernel
theorem P_joined_s192 : zseg (zown P_joined) (zcode P_joined) 192 [(.iload_n 1, 1, 0, 0, 0), (.iload_n 2, 1, 0, 0, 0), (.irem, 1, 0, 0, 0)] 195 = true := by decide +kernel
theorem P_joined_d1 : decode (zcode P_joined) 1 = .ok (.lookupswitch 183 #[(38, 100), (42, 167), (43, 159), (45, 163), (47, 171), (60, 117), (61, 131), (62, 145), (124, 83)], 83) := by decide +kernel
theorem P_joined_d85 : decode (zcode P_joined) 85 = .ok (.ifCond .ne 7, 3) := by decide +kernel
theorem P_joined_d89 : decode (zcode P_joined) 89 = .ok (.ifCond .eq 7, 3) := by decide +kernel
theorem P_joined_d97 : decode (zcode P_joined) 97 = .ok (.invokestatic 32, 3) := by decide +kernel
theorem P_joined_d100 : decode (zcode P_joined) 100 = .ok (.ireturn, 1) := by decide +kernel
theorem P_joined_d102 : decode (zcode P_joined) 102 = .ok (.ifCond .eq 11, 3) := by decide +kernel
theorem P_joined_d106 : decode (zcode P_joined) 106 = .ok (.ifCond .eq 7, 3) := by decide +kernel
theorem P_joined_d114 : decode (zcode P_joined) 114 = .ok (.invokestatic 32, 3) := by decide +kernel
theorem P_joined_d117 : decode (zcode P_joined) 117 = .ok (.ireturn, 1) := by decide +kernel
theorem P_joined_d120 : decode (zcode P_joined) 120 = .ok (.if_icmp .ge 7, 3) := by decide +kernel
theorem P_joined_d128 : decode (zcode P_joined) 128 = .ok (.invokestatic 32, 3) := by decide +kernel
theorem P_joined_d131 : decode (zcode P_joined) 131 = .ok (.ireturn, 1) := by decide +kernel
theorem P_joined_d134 : decode (zcode P_joined) 134 = .ok (.if_icmp .ne 7, 3) := by decide +kernel
theorem P_joined_d142 : decode (zcode P_joined) 142 = .ok (.invokestatic 32, 3) := by decide +kernel
theorem P_joined_d145 : decode (zcode P_joined) 145 = .ok (.ireturn, 1) := by decide +kernel
theorem P_joined_d148 : decode (zcode P_joined) 148 = .ok (.if_icmp .le 7, 3) := by decide +kernel
theorem P_joined_d156 : decode (zcode P_joined) 156 = .ok (.invokestatic 32, 3) := by decide +kernel
theorem P_joined_d159 : decode (zcode P_joined) 159 = .ok (.ireturn, 1) := by decide +kernel
theorem P_joined_d163 : decode (zcode P_joined) 163 = .ok (.ireturn, 1) := by decide +kernel
theorem P_joined_d167 : decode (zcode P_joined) 167 = .ok (.ireturn, 1) := by decide +kernel
theorem P_joined_d171 : decode (zcode P_joined) 171 = .ok (.ireturn, 1) := by decide +kernel
theorem P_joined_d173 : decode (zcode P_joined) 173 = .ok (.ifCond .ne 7, 3) := by decide +kernel
theorem P_joined_d183 : decode (zcode P_joined) 183 = .ok (.ireturn, 1) := by decide +kernel
theorem P_joined_d185 : decode (zcode P_joined) 185 = .ok (.ifCond .ne 7, 3) := by decide +kernel
theorem P_joined_d195 : decode (zcode P_joined) 195 = .ok (.ireturn, 1) := by decide +kernel
theorem R_add_s0 : zseg (zown R_add) (zcode R_add) 0 [(.aload_n 0, 1, 0, 0, 0), (.getfield 20, 3, 0, 7, 1), (.bipush 120, 2, 120, 0, 0)] 6 = true := by decide +kernel
theorem R_add_s9 : zseg (zown R_add) (zcode R_add) 9 [(.iconst 0, 1, 0, 0, 0)] 10 = true := by decide +kernel
theorem R_add_s11 : zseg (zown R_add) (zcode R_add) 11 [(.aload_n 0, 1, 0, 0, 0), (.getfield 9, 3, 0, 7, 0), (.aload_n 0, 1, 0, 0, 0), (.getfield 20, 3, 0, 7, 1), (.iload_n 1, 1, 0, 0, 0), (.iastore, 1, 0, 0, 0), (.aload_n 0, 1, 0, 0, 0), (.dup, 1, 0, 0, 0), (.getfield 20, 3, 0, 7, 1), (.iconst 1, 1, 1, 0, 0), (.iadd, 1, 0, 0, 0), (.putfield 20, 3, 0, 7, 1), (.iconst 1, 1, 1, 0, 0)] 32 = true := by decide +kernel
theorem R_add_d6 : decode (zcode R_add) 6 = .ok (.if_icmp .lt 5, 3) := by decide +kernel
theorem R_add_d10 : decode (zcode R_add) 10 = .ok (.ireturn, 1) := by decide +kernel
theorem R_add_d32 : decode (zcode R_add) 32 = .ok (.ireturn, 1) := by decide +kernel
theorem R_exchanged_s0 : zseg (zown R_exchanged) (zcode R_exchanged) 0 [(.aload_n 0, 1, 0, 0, 0), (.getfield 16, 3, 0, 7, 3), (.astore_n 2, 1, 0, 0, 0), (.aload_n 0, 1, 0, 0, 0), (.aload_n 1, 1, 0, 0, 0), (.putfield 16, 3, 0, 7, 3), (.aload_n 2, 1, 0, 0, 0)] 11 = true := by decide +kernel
theorem R_exchanged_d11 : decode (zcode R_exchanged) 11 = .ok (.areturn, 1) := by decide +kernel
theorem R_isText_s0 : zseg (zown R_isText) (zcode R_isText) 0 [(.aload_n 0, 1, 0, 0, 0), (.getfield 16, 3, 0, 7, 3), (.iconst 0, 1, 0, 0, 0), (.putfield 24, 3, 0, 6, 4), (.aload_n 0, 1, 0, 0, 0), (.iconst 0, 1, 0, 0, 0), (.putfield 27, 3, 0, 7, 2), (.iconst 0, 1, 0, 0, 0), (.istore_n 1, 1, 0, 0, 0)] 15 = true := by decide +kernel
theorem R_isText_s15 : zseg (zown R_isText) (zcode R_isText) 15 [(.iload_n 1, 1, 0, 0, 0), (.bipush 120, 2, 120, 0, 0)] 18 = true := by decide +kernel
theorem R_isText_s21 : zseg (zown R_isText) (zcode R_isText) 21 [(.aload_n 0, 1, 0, 0, 0)] 22 = true := by decide +kernel
theorem R_isText_s28 : zseg (zown R_isText) (zcode R_isText) 28 [(.iconst 0, 1, 0, 0, 0)] 29 = true := by decide +kernel
theorem R_isText_s30 : zseg (zown R_isText) (zcode R_isText) 30 [(.aload_n 0, 1, 0, 0, 0), (.getfield 27, 3, 0, 7, 2), (.aload_n 0, 1, 0, 0, 0), (.getfield 20, 3, 0, 7, 1)] 38 = true := by decide +kernel
theorem R_isText_s41 : zseg (zown R_isText) (zcode R_isText) 41 [(.iconst 1, 1, 1, 0, 0)] 42 = true := by decide +kernel
theorem R_isText_s43 : zseg (zown R_isText) (zcode R_isText) 43 [(.aload_n 0, 1, 0, 0, 0), (.bipush 59, 2, 59, 0, 0)] 46 = true := by decide +kernel
theorem R_isText_s52 : zseg (zown R_isText) (zcode R_isText) 52 [(.iconst 0, 1, 0, 0, 0)] 53 = true := by decide +kernel
theorem R_isText_s54 : zseg (zown R_isText) (zcode R_isText) 54 [(.iinc 1 1, 3, 1, 0, 0), (.goto (-42), 3, 0, 0, 0)] 15 = true := by decide +kernel
theorem R_isText_s60 : zseg (zown R_isText) (zcode R_isText) 60 [(.iconst 0, 1, 0, 0, 0)] 61 = true := by decide +kernel
theorem R_isText_d18 : decode (zcode R_isText) 18 = .ok (.if_icmp .gt 42, 3) := by decide +kernel
theorem R_isText_d22 : decode (zcode R_isText) 22 = .ok (.invokevirtual 30, 3) := by decide +kernel
theorem R_isText_d25 : decode (zcode R_isText) 25 = .ok (.ifCond .ne 5, 3) := by decide +kernel
theorem R_isText_d29 : decode (zcode R_isText) 29 = .ok (.ireturn, 1) := by decide +kernel
theorem R_isText_d38 : decode (zcode R_isText) 38 = .ok (.if_icmp .ne 5, 3) := by decide +kernel
theorem R_isText_d42 : decode (zcode R_isText) 42 = .ok (.ireturn, 1) := by decide +kernel
theorem R_isText_d46 : decode (zcode R_isText) 46 = .ok (.invokevirtual 34, 3) := by decide +kernel
theorem R_isText_d49 : decode (zcode R_isText) 49 = .ok (.ifCond .ne 5, 3) := by decide +kernel
theorem R_isText_d53 : decode (zcode R_isText) 53 = .ok (.ireturn, 1) := by decide +kernel
theorem R_isText_d61 : decode (zcode R_isText) 61 = .ok (.ireturn, 1) := by decide +kernel
theorem R_next_s0 : zseg (zown R_next) (zcode R_next) 0 [(.aload_n 0, 1, 0, 0, 0), (.getfield 27, 3, 0, 7, 2)] 4 = true := by decide +kernel
theorem R_next_s7 : zseg (zown R_next) (zcode R_next) 7 [(.aload_n 0, 1, 0, 0, 0), (.getfield 27, 3, 0, 7, 2), (.aload_n 0, 1, 0, 0, 0), (.getfield 20, 3, 0, 7, 1)] 15 = true := by decide +kernel
theorem R_next_s18 : zseg (zown R_next) (zcode R_next) 18 [(.aload_n 0, 1, 0, 0, 0), (.getfield 9, 3, 0, 7, 0), (.aload_n 0, 1, 0, 0, 0), (.getfield 27, 3, 0, 7, 2), (.iaload, 1, 0, 0, 0), (.goto 4, 3, 0, 0, 0)] 31 = true := by decide +kernel
theorem R_next_s30 : zseg (zown R_next) (zcode R_next) 30 [(.iconst (-1), 1, (-1), 0, 0)] 31 = true := by decide +kernel
theorem R_next_d4 : decode (zcode R_next) 4 = .ok (.ifCond .lt 26, 3) := by decide +kernel
theorem R_next_d15 : decode (zcode R_next) 15 = .ok (.if_icmp .ge 15, 3) := by decide +kernel
theorem R_next_d31 : decode (zcode R_next) 31 = .ok (.ireturn, 1) := by decide +kernel
theorem R_take_s0 : zseg (zown R_take) (zcode R_take) 0 [(.aload_n 0, 1, 0, 0, 0)] 1 = true := by decide +kernel
theorem R_take_s4 : zseg (zown R_take) (zcode R_take) 4 [(.iload_n 1, 1, 0, 0, 0)] 5 = true := by decide +kernel
theorem R_take_s8 : zseg (zown R_take) (zcode R_take) 8 [(.iconst 0, 1, 0, 0, 0)] 9 = true := by decide +kernel
theorem R_take_s10 : zseg (zown R_take) (zcode R_take) 10 [(.aload_n 0, 1, 0, 0, 0), (.dup, 1, 0, 0, 0), (.getfield 27, 3, 0, 7, 2), (.iconst 1, 1, 1, 0, 0), (.iadd, 1, 0, 0, 0), (.putfield 27, 3, 0, 7, 2), (.iconst 1, 1, 1, 0, 0)] 21 = true := by decide +kernel
theorem R_take_d1 : decode (zcode R_take) 1 = .ok (.invokevirtual 38, 3) := by decide +kernel
theorem R_take_d5 : decode (zcode R_take) 5 = .ok (.if_icmp .eq 5, 3) := by decide +kernel
theorem R_take_d9 : decode (zcode R_take) 9 = .ok (.ireturn, 1) := by decide +kernel
theorem R_take_d21 : decode (zcode R_take) 21 = .ok (.ireturn, 1) := by decide +kernel
theorem R_line_s0 : zseg (zown R_line) (zcode R_line) 0 [(.aload_n 0, 1, 0, 0, 0), (.iconst 0, 1, 0, 0, 0)] 2 = true := by decide +kernel
theorem R_line_s8 : zseg (zown R_line) (zcode R_line) 8 [(.iconst 0, 1, 0, 0, 0)] 9 = true := by decide +kernel
theorem R_line_s10 : zseg (zown R_line) (zcode R_line) 10 [(.aload_n 0, 1, 0, 0, 0), (.getfield 16, 3, 0, 7, 3), (.getfield 24, 3, 0, 6, 4), (.istore_n 1, 1, 0, 0, 0), (.aload_n 0, 1, 0, 0, 0), (.bipush 63, 2, 63, 0, 0)] 21 = true := by decide +kernel
theorem R_line_s24 : zseg (zown R_line) (zcode R_line) 24 [(.istore_n 2, 1, 0, 0, 0), (.iload_n 2, 1, 0, 0, 0)] 26 = true := by decide +kernel
theorem R_line_s29 : zseg (zown R_line) (zcode R_line) 29 [(.aload_n 0, 1, 0, 0, 0), (.getfield 16, 3, 0, 7, 3), (.bipush 63, 2, 63, 0, 0), (.iconst 0, 1, 0, 0, 0)] 36 = true := by decide +kernel
theorem R_line_s39 : zseg (zown R_line) (zcode R_line) 39 [(.aload_n 0, 1, 0, 0, 0), (.iconst 0, 1, 0, 0, 0)] 41 = true := by decide +kernel
theorem R_line_s47 : zseg (zown R_line) (zcode R_line) 47 [(.iconst 0, 1, 0, 0, 0)] 48 = true := by decide +kernel
theorem R_line_s49 : zseg (zown R_line) (zcode R_line) 49 [(.aload_n 0, 1, 0, 0, 0), (.getfield 16, 3, 0, 7, 3), (.bipush 59, 2, 59, 0, 0), (.iconst 0, 1, 0, 0, 0)] 56 = true := by decide +kernel
theorem R_line_s59 : zseg (zown R_line) (zcode R_line) 59 [(.iload_n 2, 1, 0, 0, 0)] 60 = true := by decide +kernel
theorem R_line_s63 : zseg (zown R_line) (zcode R_line) 63 [(.iload_n 1, 1, 0, 0, 0), (.bipush 121, 2, 121, 0, 0)] 66 = true := by decide +kernel
theorem R_line_s69 : zseg (zown R_line) (zcode R_line) 69 [(.aload_n 0, 1, 0, 0, 0), (.getfield 16, 3, 0, 7, 3), (.getfield 49, 3, 0, 6, 1), (.iload_n 1, 1, 0, 0, 0), (.aload_n 0, 1, 0, 0, 0), (.getfield 16, 3, 0, 7, 3), (.getfield 24, 3, 0, 6, 4), (.iastore, 1, 0, 0, 0), (.iconst 1, 1, 1, 0, 0)] 86 = true := by decide +kernel
theorem R_line_s85 : zseg (zown R_line) (zcode R_line) 85 [(.iconst 1, 1, 1, 0, 0)] 86 = true := by decide +kernel
theorem R_line_d2 : decode (zcode R_line) 2 = .ok (.invokevirtual 42, 3) := by decide +kernel
theorem R_line_d5 : decode (zcode R_line) 5 = .ok (.ifCond .ne 5, 3) := by decide +kernel
theorem R_line_d9 : decode (zcode R_line) 9 = .ok (.ireturn, 1) := by decide +kernel
theorem R_line_d21 : decode (zcode R_line) 21 = .ok (.invokevirtual 34, 3) := by decide +kernel
theorem R_line_d26 : decode (zcode R_line) 26 = .ok (.ifCond .eq 23, 3) := by decide +kernel
theorem R_line_d36 : decode (zcode R_line) 36 = .ok (.invokevirtual 45, 3) := by decide +kernel
theorem R_line_d41 : decode (zcode R_line) 41 = .ok (.invokevirtual 42, 3) := by decide +kernel
theorem R_line_d44 : decode (zcode R_line) 44 = .ok (.ifCond .ne 5, 3) := by decide +kernel
theorem R_line_d48 : decode (zcode R_line) 48 = .ok (.ireturn, 1) := by decide +kernel
theorem R_line_d56 : decode (zcode R_line) 56 = .ok (.invokevirtual 45, 3) := by decide +kernel
theorem R_line_d60 : decode (zcode R_line) 60 = .ok (.ifCond .eq 25, 3) := by decide +kernel
theorem R_line_d66 : decode (zcode R_line) 66 = .ok (.if_icmp .ge 19, 3) := by decide +kernel
theorem R_line_d86 : decode (zcode R_line) 86 = .ok (.ireturn, 1) := by decide +kernel
theorem R_either_s0 : zseg (zown R_either) (zcode R_either) 0 [(.aload_n 0, 1, 0, 0, 0), (.iload_n 1, 1, 0, 0, 0)] 2 = true := by decide +kernel
theorem R_either_s8 : zseg (zown R_either) (zcode R_either) 8 [(.iconst 0, 1, 0, 0, 0)] 9 = true := by decide +kernel
theorem R_either_s10 : zseg (zown R_either) (zcode R_either) 10 [(.iconst 0, 1, 0, 0, 0), (.istore_n 2, 1, 0, 0, 0)] 12 = true := by decide +kernel
theorem R_either_s12 : zseg (zown R_either) (zcode R_either) 12 [(.iload_n 2, 1, 0, 0, 0), (.bipush 120, 2, 120, 0, 0)] 15 = true := by decide +kernel
theorem R_either_s18 : zseg (zown R_either) (zcode R_either) 18 [(.aload_n 0, 1, 0, 0, 0), (.bipush 124, 2, 124, 0, 0)] 21 = true := by decide +kernel
theorem R_either_s27 : zseg (zown R_either) (zcode R_either) 27 [(.aload_n 0, 1, 0, 0, 0), (.iload_n 1, 1, 0, 0, 0)] 29 = true := by decide +kernel
theorem R_either_s35 : zseg (zown R_either) (zcode R_either) 35 [(.iconst 0, 1, 0, 0, 0)] 36 = true := by decide +kernel
theorem R_either_s37 : zseg (zown R_either) (zcode R_either) 37 [(.aload_n 0, 1, 0, 0, 0), (.getfield 16, 3, 0, 7, 3), (.bipush 124, 2, 124, 0, 0), (.iconst 0, 1, 0, 0, 0)] 44 = true := by decide +kernel
theorem R_either_s47 : zseg (zown R_either) (zcode R_either) 47 [(.iinc 2 1, 3, 1, 0, 0), (.goto (-38), 3, 0, 0, 0)] 12 = true := by decide +kernel
theorem R_either_s53 : zseg (zown R_either) (zcode R_either) 53 [(.iconst 1, 1, 1, 0, 0)] 54 = true := by decide +kernel
theorem R_either_d2 : decode (zcode R_either) 2 = .ok (.invokevirtual 52, 3) := by decide +kernel
theorem R_either_d5 : decode (zcode R_either) 5 = .ok (.ifCond .ne 5, 3) := by decide +kernel
theorem R_either_d9 : decode (zcode R_either) 9 = .ok (.ireturn, 1) := by decide +kernel
theorem R_either_d15 : decode (zcode R_either) 15 = .ok (.if_icmp .ge 38, 3) := by decide +kernel
theorem R_either_d21 : decode (zcode R_either) 21 = .ok (.invokevirtual 34, 3) := by decide +kernel
theorem R_either_d24 : decode (zcode R_either) 24 = .ok (.ifCond .eq 29, 3) := by decide +kernel
theorem R_either_d29 : decode (zcode R_either) 29 = .ok (.invokevirtual 52, 3) := by decide +kernel
theorem R_either_d32 : decode (zcode R_either) 32 = .ok (.ifCond .ne 5, 3) := by decide +kernel
theorem R_either_d36 : decode (zcode R_either) 36 = .ok (.ireturn, 1) := by decide +kernel
theorem R_either_d44 : decode (zcode R_either) 44 = .ok (.invokevirtual 45, 3) := by decide +kernel
theorem R_either_d54 : decode (zcode R_either) 54 = .ok (.ireturn, 1) := by decide +kernel
theorem R_both_s0 : zseg (zown R_both) (zcode R_both) 0 [(.aload_n 0, 1, 0, 0, 0), (.iload_n 1, 1, 0, 0, 0)] 2 = true := by decide +kernel
theorem R_both_s8 : zseg (zown R_both) (zcode R_both) 8 [(.iconst 0, 1, 0, 0, 0)] 9 = true := by decide +kernel
theorem R_both_s10 : zseg (zown R_both) (zcode R_both) 10 [(.iconst 0, 1, 0, 0, 0), (.istore_n 2, 1, 0, 0, 0)] 12 = true := by decide +kernel
theorem R_both_s12 : zseg (zown R_both) (zcode R_both) 12 [(.iload_n 2, 1, 0, 0, 0), (.bipush 120, 2, 120, 0, 0)] 15 = true := by decide +kernel
theorem R_both_s18 : zseg (zown R_both) (zcode R_both) 18 [(.aload_n 0, 1, 0, 0, 0), (.bipush 38, 2, 38, 0, 0)] 21 = true := by decide +kernel
theorem R_both_s27 : zseg (zown R_both) (zcode R_both) 27 [(.aload_n 0, 1, 0, 0, 0), (.iload_n 1, 1, 0, 0, 0)] 29 = true := by decide +kernel
theorem R_both_s35 : zseg (zown R_both) (zcode R_both) 35 [(.iconst 0, 1, 0, 0, 0)] 36 = true := by decide +kernel
theorem R_both_s37 : zseg (zown R_both) (zcode R_both) 37 [(.aload_n 0, 1, 0, 0, 0), (.getfield 16, 3, 0, 7, 3), (.bipush 38, 2, 38, 0, 0), (.iconst 0, 1, 0, 0, 0)] 44 = true := by decide +kernel
theorem R_both_s47 : zseg (zown R_both) (zcode R_both) 47 [(.iinc 2 1, 3, 1, 0, 0), (.goto (-38), 3, 0, 0, 0)] 12 = true := by decide +kernel
theorem R_both_s53 : zseg (zown R_both) (zcode R_both) 53 [(.iconst 1, 1, 1, 0, 0)] 54 = true := by decide +kernel
theorem R_both_d2 : decode (zcode R_both) 2 = .ok (.invokevirtual 55, 3) := by decide +kernel
theorem R_both_d5 : decode (zcode R_both) 5 = .ok (.ifCond .ne 5, 3) := by decide +kernel
theorem R_both_d9 : decode (zcode R_both) 9 = .ok (.ireturn, 1) := by decide +kernel
theorem R_both_d15 : decode (zcode R_both) 15 = .ok (.if_icmp .ge 38, 3) := by decide +kernel
theorem R_both_d21 : decode (zcode R_both) 21 = .ok (.invokevirtual 34, 3) := by decide +kernel
theorem R_both_d24 : decode (zcode R_both) 24 = .ok (.ifCond .eq 29, 3) := by decide +kernel
theorem R_both_d29 : decode (zcode R_both) 29 = .ok (.invokevirtual 55, 3) := by decide +kernel
theorem R_both_d32 : decode (zcode R_both) 32 = .ok (.ifCond .ne 5, 3) := by decide +kernel
theorem R_both_d36 : decode (zcode R_both) 36 = .ok (.ireturn, 1) := by decide +kernel
theorem R_both_d44 : decode (zcode R_both) 44 = .ok (.invokevirtual 45, 3) := by decide +kernel
theorem R_both_d54 : decode (zcode R_both) 54 = .ok (.ireturn, 1) := by decide +kernel
theorem R_compared_s0 : zseg (zown R_compared) (zcode R_compared) 0 [(.aload_n 0, 1, 0, 0, 0), (.iload_n 1, 1, 0, 0, 0)] 2 = true := by decide +kernel
theorem R_compared_s8 : zseg (zown R_compared) (zcode R_compared) 8 [(.iconst 0, 1, 0, 0, 0)] 9 = true := by decide +kernel
theorem R_compared_s10 : zseg (zown R_compared) (zcode R_compared) 10 [(.aload_n 0, 1, 0, 0, 0)] 11 = true := by decide +kernel
theorem R_compared_s14 : zseg (zown R_compared) (zcode R_compared) 14 [(.istore_n 2, 1, 0, 0, 0), (.iload_n 2, 1, 0, 0, 0), (.bipush 60, 2, 60, 0, 0)] 18 = true := by decide +kernel
theorem R_compared_s21 : zseg (zown R_compared) (zcode R_compared) 21 [(.iload_n 2, 1, 0, 0, 0), (.bipush 61, 2, 61, 0, 0)] 24 = true := by decide +kernel
theorem R_compared_s27 : zseg (zown R_compared) (zcode R_compared) 27 [(.iload_n 2, 1, 0, 0, 0), (.bipush 62, 2, 62, 0, 0)] 30 = true := by decide +kernel
theorem R_compared_s33 : zseg (zown R_compared) (zcode R_compared) 33 [(.iconst 1, 1, 1, 0, 0)] 34 = true := by decide +kernel
theorem R_compared_s35 : zseg (zown R_compared) (zcode R_compared) 35 [(.aload_n 0, 1, 0, 0, 0), (.dup, 1, 0, 0, 0), (.getfield 27, 3, 0, 7, 2), (.iconst 1, 1, 1, 0, 0), (.iadd, 1, 0, 0, 0), (.putfield 27, 3, 0, 7, 2), (.aload_n 0, 1, 0, 0, 0), (.iload_n 1, 1, 0, 0, 0)] 47 = true := by decide +kernel
theorem R_compared_s53 : zseg (zown R_compared) (zcode R_compared) 53 [(.iconst 0, 1, 0, 0, 0)] 54 = true := by decide +kernel
theorem R_compared_s55 : zseg (zown R_compared) (zcode R_compared) 55 [(.aload_n 0, 1, 0, 0, 0), (.getfield 16, 3, 0, 7, 3), (.iload_n 2, 1, 0, 0, 0), (.iconst 0, 1, 0, 0, 0)] 61 = true := by decide +kernel
theorem R_compared_s64 : zseg (zown R_compared) (zcode R_compared) 64 [(.iconst 1, 1, 1, 0, 0)] 65 = true := by decide +kernel
theorem R_compared_d2 : decode (zcode R_compared) 2 = .ok (.invokevirtual 58, 3) := by decide +kernel
theorem R_compared_d5 : decode (zcode R_compared) 5 = .ok (.ifCond .ne 5, 3) := by decide +kernel
theorem R_compared_d9 : decode (zcode R_compared) 9 = .ok (.ireturn, 1) := by decide +kernel
theorem R_compared_d11 : decode (zcode R_compared) 11 = .ok (.invokevirtual 38, 3) := by decide +kernel
theorem R_compared_d18 : decode (zcode R_compared) 18 = .ok (.if_icmp .eq 17, 3) := by decide +kernel
theorem R_compared_d24 : decode (zcode R_compared) 24 = .ok (.if_icmp .eq 11, 3) := by decide +kernel
theorem R_compared_d30 : decode (zcode R_compared) 30 = .ok (.if_icmp .eq 5, 3) := by decide +kernel
theorem R_compared_d34 : decode (zcode R_compared) 34 = .ok (.ireturn, 1) := by decide +kernel
theorem R_compared_d47 : decode (zcode R_compared) 47 = .ok (.invokevirtual 58, 3) := by decide +kernel
theorem R_compared_d50 : decode (zcode R_compared) 50 = .ok (.ifCond .ne 5, 3) := by decide +kernel
theorem R_compared_d54 : decode (zcode R_compared) 54 = .ok (.ireturn, 1) := by decide +kernel
theorem R_compared_d61 : decode (zcode R_compared) 61 = .ok (.invokevirtual 45, 3) := by decide +kernel
theorem R_compared_d65 : decode (zcode R_compared) 65 = .ok (.ireturn, 1) := by decide +kernel
theorem R_sum_s0 : zseg (zown R_sum) (zcode R_sum) 0 [(.aload_n 0, 1, 0, 0, 0), (.iload_n 1, 1, 0, 0, 0)] 2 = true := by decide +kernel
theorem R_sum_s8 : zseg (zown R_sum) (zcode R_sum) 8 [(.iconst 0, 1, 0, 0, 0)] 9 = true := by decide +kernel
theorem R_sum_s10 : zseg (zown R_sum) (zcode R_sum) 10 [(.aload_n 0, 1, 0, 0, 0)] 11 = true := by decide +kernel
theorem R_sum_s14 : zseg (zown R_sum) (zcode R_sum) 14 [(.istore_n 2, 1, 0, 0, 0), (.iconst 0, 1, 0, 0, 0), (.istore_n 3, 1, 0, 0, 0)] 17 = true := by decide +kernel
theorem R_sum_s17 : zseg (zown R_sum) (zcode R_sum) 17 [(.iload_n 3, 1, 0, 0, 0), (.bipush 120, 2, 120, 0, 0)] 20 = true := by decide +kernel
theorem R_sum_s23 : zseg (zown R_sum) (zcode R_sum) 23 [(.iload_n 2, 1, 0, 0, 0), (.bipush 43, 2, 43, 0, 0)] 26 = true := by decide +kernel
theorem R_sum_s29 : zseg (zown R_sum) (zcode R_sum) 29 [(.iload_n 2, 1, 0, 0, 0), (.bipush 45, 2, 45, 0, 0)] 32 = true := by decide +kernel
theorem R_sum_s35 : zseg (zown R_sum) (zcode R_sum) 35 [(.aload_n 0, 1, 0, 0, 0), (.dup, 1, 0, 0, 0), (.getfield 27, 3, 0, 7, 2), (.iconst 1, 1, 1, 0, 0), (.iadd, 1, 0, 0, 0), (.putfield 27, 3, 0, 7, 2), (.aload_n 0, 1, 0, 0, 0), (.iload_n 1, 1, 0, 0, 0)] 47 = true := by decide +kernel
theorem R_sum_s53 : zseg (zown R_sum) (zcode R_sum) 53 [(.iconst 0, 1, 0, 0, 0)] 54 = true := by decide +kernel
theorem R_sum_s55 : zseg (zown R_sum) (zcode R_sum) 55 [(.aload_n 0, 1, 0, 0, 0), (.getfield 16, 3, 0, 7, 3), (.iload_n 2, 1, 0, 0, 0), (.iconst 0, 1, 0, 0, 0)] 61 = true := by decide +kernel
theorem R_sum_s64 : zseg (zown R_sum) (zcode R_sum) 64 [(.aload_n 0, 1, 0, 0, 0)] 65 = true := by decide +kernel
theorem R_sum_s68 : zseg (zown R_sum) (zcode R_sum) 68 [(.istore_n 2, 1, 0, 0, 0), (.iinc 3 1, 3, 1, 0, 0), (.goto (-55), 3, 0, 0, 0)] 17 = true := by decide +kernel
theorem R_sum_s75 : zseg (zown R_sum) (zcode R_sum) 75 [(.iconst 1, 1, 1, 0, 0)] 76 = true := by decide +kernel
theorem R_sum_d2 : decode (zcode R_sum) 2 = .ok (.invokevirtual 61, 3) := by decide +kernel
theorem R_sum_d5 : decode (zcode R_sum) 5 = .ok (.ifCond .ne 5, 3) := by decide +kernel
theorem R_sum_d9 : decode (zcode R_sum) 9 = .ok (.ireturn, 1) := by decide +kernel
theorem R_sum_d11 : decode (zcode R_sum) 11 = .ok (.invokevirtual 38, 3) := by decide +kernel
theorem R_sum_d20 : decode (zcode R_sum) 20 = .ok (.if_icmp .ge 55, 3) := by decide +kernel
theorem R_sum_d26 : decode (zcode R_sum) 26 = .ok (.if_icmp .eq 9, 3) := by decide +kernel
theorem R_sum_d32 : decode (zcode R_sum) 32 = .ok (.if_icmp .ne 43, 3) := by decide +kernel
theorem R_sum_d47 : decode (zcode R_sum) 47 = .ok (.invokevirtual 61, 3) := by decide +kernel
theorem R_sum_d50 : decode (zcode R_sum) 50 = .ok (.ifCond .ne 5, 3) := by decide +kernel
theorem R_sum_d54 : decode (zcode R_sum) 54 = .ok (.ireturn, 1) := by decide +kernel
theorem R_sum_d61 : decode (zcode R_sum) 61 = .ok (.invokevirtual 45, 3) := by decide +kernel
theorem R_sum_d65 : decode (zcode R_sum) 65 = .ok (.invokevirtual 38, 3) := by decide +kernel
theorem R_sum_d76 : decode (zcode R_sum) 76 = .ok (.ireturn, 1) := by decide +kernel
theorem R_product_s0 : zseg (zown R_product) (zcode R_product) 0 [(.aload_n 0, 1, 0, 0, 0), (.iload_n 1, 1, 0, 0, 0)] 2 = true := by decide +kernel
theorem R_product_s8 : zseg (zown R_product) (zcode R_product) 8 [(.iconst 0, 1, 0, 0, 0)] 9 = true := by decide +kernel
theorem R_product_s10 : zseg (zown R_product) (zcode R_product) 10 [(.aload_n 0, 1, 0, 0, 0)] 11 = true := by decide +kernel
theorem R_product_s14 : zseg (zown R_product) (zcode R_product) 14 [(.istore_n 2, 1, 0, 0, 0), (.iconst 0, 1, 0, 0, 0), (.istore_n 3, 1, 0, 0, 0)] 17 = true := by decide +kernel
theorem R_product_s17 : zseg (zown R_product) (zcode R_product) 17 [(.iload_n 3, 1, 0, 0, 0), (.bipush 120, 2, 120, 0, 0)] 20 = true := by decide +kernel
theorem R_product_s23 : zseg (zown R_product) (zcode R_product) 23 [(.iload_n 2, 1, 0, 0, 0), (.bipush 42, 2, 42, 0, 0)] 26 = true := by decide +kernel
theorem R_product_s29 : zseg (zown R_product) (zcode R_product) 29 [(.iload_n 2, 1, 0, 0, 0), (.bipush 47, 2, 47, 0, 0)] 32 = true := by decide +kernel
theorem R_product_s35 : zseg (zown R_product) (zcode R_product) 35 [(.iload_n 2, 1, 0, 0, 0), (.bipush 37, 2, 37, 0, 0)] 38 = true := by decide +kernel
theorem R_product_s41 : zseg (zown R_product) (zcode R_product) 41 [(.aload_n 0, 1, 0, 0, 0), (.dup, 1, 0, 0, 0), (.getfield 27, 3, 0, 7, 2), (.iconst 1, 1, 1, 0, 0), (.iadd, 1, 0, 0, 0), (.putfield 27, 3, 0, 7, 2), (.aload_n 0, 1, 0, 0, 0), (.iload_n 1, 1, 0, 0, 0)] 53 = true := by decide +kernel
theorem R_product_s59 : zseg (zown R_product) (zcode R_product) 59 [(.iconst 0, 1, 0, 0, 0)] 60 = true := by decide +kernel
theorem R_product_s61 : zseg (zown R_product) (zcode R_product) 61 [(.aload_n 0, 1, 0, 0, 0), (.getfield 16, 3, 0, 7, 3), (.iload_n 2, 1, 0, 0, 0), (.iconst 0, 1, 0, 0, 0)] 67 = true := by decide +kernel
theorem R_product_s70 : zseg (zown R_product) (zcode R_product) 70 [(.aload_n 0, 1, 0, 0, 0)] 71 = true := by decide +kernel
theorem R_product_s74 : zseg (zown R_product) (zcode R_product) 74 [(.istore_n 2, 1, 0, 0, 0), (.iinc 3 1, 3, 1, 0, 0), (.goto (-61), 3, 0, 0, 0)] 17 = true := by decide +kernel
theorem R_product_s81 : zseg (zown R_product) (zcode R_product) 81 [(.iconst 1, 1, 1, 0, 0)] 82 = true := by decide +kernel
theorem R_product_d2 : decode (zcode R_product) 2 = .ok (.invokevirtual 64, 3) := by decide +kernel
theorem R_product_d5 : decode (zcode R_product) 5 = .ok (.ifCond .ne 5, 3) := by decide +kernel
theorem R_product_d9 : decode (zcode R_product) 9 = .ok (.ireturn, 1) := by decide +kernel
theorem R_product_d11 : decode (zcode R_product) 11 = .ok (.invokevirtual 38, 3) := by decide +kernel
theorem R_product_d20 : decode (zcode R_product) 20 = .ok (.if_icmp .ge 61, 3) := by decide +kernel
theorem R_product_d26 : decode (zcode R_product) 26 = .ok (.if_icmp .eq 15, 3) := by decide +kernel
theorem R_product_d32 : decode (zcode R_product) 32 = .ok (.if_icmp .eq 9, 3) := by decide +kernel
theorem R_product_d38 : decode (zcode R_product) 38 = .ok (.if_icmp .ne 43, 3) := by decide +kernel
theorem R_product_d53 : decode (zcode R_product) 53 = .ok (.invokevirtual 64, 3) := by decide +kernel
theorem R_product_d56 : decode (zcode R_product) 56 = .ok (.ifCond .ne 5, 3) := by decide +kernel
theorem R_product_d60 : decode (zcode R_product) 60 = .ok (.ireturn, 1) := by decide +kernel
theorem R_product_d67 : decode (zcode R_product) 67 = .ok (.invokevirtual 45, 3) := by decide +kernel
theorem R_product_d71 : decode (zcode R_product) 71 = .ok (.invokevirtual 38, 3) := by decide +kernel
theorem R_product_d82 : decode (zcode R_product) 82 = .ok (.ireturn, 1) := by decide +kernel
theorem R_one_s0 : zseg (zown R_one) (zcode R_one) 0 [(.aload_n 0, 1, 0, 0, 0)] 1 = true := by decide +kernel
theorem R_one_s4 : zseg (zown R_one) (zcode R_one) 4 [(.istore_n 2, 1, 0, 0, 0), (.iload_n 2, 1, 0, 0, 0), (.bipush 40, 2, 40, 0, 0)] 8 = true := by decide +kernel
theorem R_one_s11 : zseg (zown R_one) (zcode R_one) 11 [(.iload_n 2, 1, 0, 0, 0), (.bipush 33, 2, 33, 0, 0)] 14 = true := by decide +kernel
theorem R_one_s17 : zseg (zown R_one) (zcode R_one) 17 [(.iload_n 2, 1, 0, 0, 0), (.bipush 45, 2, 45, 0, 0)] 20 = true := by decide +kernel
theorem R_one_s23 : zseg (zown R_one) (zcode R_one) 23 [(.aload_n 0, 1, 0, 0, 0), (.iload_n 2, 1, 0, 0, 0), (.iload_n 1, 1, 0, 0, 0)] 26 = true := by decide +kernel
theorem R_one_s30 : zseg (zown R_one) (zcode R_one) 30 [(.iload_n 2, 1, 0, 0, 0), (.bipush 48, 2, 48, 0, 0)] 33 = true := by decide +kernel
theorem R_one_s36 : zseg (zown R_one) (zcode R_one) 36 [(.iload_n 2, 1, 0, 0, 0), (.bipush 57, 2, 57, 0, 0)] 39 = true := by decide +kernel
theorem R_one_s42 : zseg (zown R_one) (zcode R_one) 42 [(.aload_n 0, 1, 0, 0, 0)] 43 = true := by decide +kernel
theorem R_one_s46 : zseg (zown R_one) (zcode R_one) 46 [(.iconst 1, 1, 1, 0, 0)] 47 = true := by decide +kernel
theorem R_one_s48 : zseg (zown R_one) (zcode R_one) 48 [(.iload_n 2, 1, 0, 0, 0)] 49 = true := by decide +kernel
theorem R_one_s52 : zseg (zown R_one) (zcode R_one) 52 [(.iconst (-1), 1, (-1), 0, 0), (.goto 10, 3, 0, 0, 0), (.istore_n 3, 1, 0, 0, 0), (.iload_n 3, 1, 0, 0, 0)] 65 = true := by decide +kernel
theorem R_one_s58 : zseg (zown R_one) (zcode R_one) 58 [(.iload_n 2, 1, 0, 0, 0), (.i2c, 1, 0, 0, 0)] 60 = true := by decide +kernel
theorem R_one_s63 : zseg (zown R_one) (zcode R_one) 63 [(.istore_n 3, 1, 0, 0, 0), (.iload_n 3, 1, 0, 0, 0)] 65 = true := by decide +kernel
theorem R_one_s68 : zseg (zown R_one) (zcode R_one) 68 [(.iconst 0, 1, 0, 0, 0)] 69 = true := by decide +kernel
theorem R_one_s70 : zseg (zown R_one) (zcode R_one) 70 [(.aload_n 0, 1, 0, 0, 0), (.dup, 1, 0, 0, 0), (.getfield 27, 3, 0, 7, 2), (.iconst 1, 1, 1, 0, 0), (.iadd, 1, 0, 0, 0), (.putfield 27, 3, 0, 7, 2), (.aload_n 0, 1, 0, 0, 0), (.getfield 16, 3, 0, 7, 3), (.bipush 97, 2, 97, 0, 0), (.iload_n 3, 1, 0, 0, 0)] 87 = true := by decide +kernel
theorem R_one_s90 : zseg (zown R_one) (zcode R_one) 90 [(.iconst 1, 1, 1, 0, 0)] 91 = true := by decide +kernel
theorem R_one_d1 : decode (zcode R_one) 1 = .ok (.invokevirtual 38, 3) := by decide +kernel
theorem R_one_d8 : decode (zcode R_one) 8 = .ok (.if_icmp .eq 15, 3) := by decide +kernel
theorem R_one_d14 : decode (zcode R_one) 14 = .ok (.if_icmp .eq 9, 3) := by decide +kernel
theorem R_one_d20 : decode (zcode R_one) 20 = .ok (.if_icmp .ne 10, 3) := by decide +kernel
theorem R_one_d26 : decode (zcode R_one) 26 = .ok (.invokevirtual 67, 3) := by decide +kernel
theorem R_one_d29 : decode (zcode R_one) 29 = .ok (.ireturn, 1) := by decide +kernel
theorem R_one_d33 : decode (zcode R_one) 33 = .ok (.if_icmp .lt 15, 3) := by decide +kernel
theorem R_one_d39 : decode (zcode R_one) 39 = .ok (.if_icmp .gt 9, 3) := by decide +kernel
theorem R_one_d43 : decode (zcode R_one) 43 = .ok (.invokevirtual 71, 3) := by decide +kernel
theorem R_one_d47 : decode (zcode R_one) 47 = .ok (.ireturn, 1) := by decide +kernel
theorem R_one_d49 : decode (zcode R_one) 49 = .ok (.ifCond .ge 7, 3) := by decide +kernel
theorem R_one_d65 : decode (zcode R_one) 65 = .ok (.ifCond .ge 5, 3) := by decide +kernel
theorem R_one_d56 : decode (zcode R_one) 56 = .ok (.ldc 74, 2) := by decide +kernel
theorem R_one_d60 : decode (zcode R_one) 60 = .ok (.invokevirtual 76, 3) := by decide +kernel
theorem R_one_d69 : decode (zcode R_one) 69 = .ok (.ireturn, 1) := by decide +kernel
theorem R_one_d87 : decode (zcode R_one) 87 = .ok (.invokevirtual 45, 3) := by decide +kernel
theorem R_one_d91 : decode (zcode R_one) 91 = .ok (.ireturn, 1) := by decide +kernel
theorem R_opened_s0 : zseg (zown R_opened) (zcode R_opened) 0 [(.iload_n 2, 1, 0, 0, 0), (.bipush 6, 2, 6, 0, 0)] 3 = true := by decide +kernel
theorem R_opened_s6 : zseg (zown R_opened) (zcode R_opened) 6 [(.iconst 0, 1, 0, 0, 0)] 7 = true := by decide +kernel
theorem R_opened_s8 : zseg (zown R_opened) (zcode R_opened) 8 [(.aload_n 0, 1, 0, 0, 0), (.dup, 1, 0, 0, 0), (.getfield 27, 3, 0, 7, 2), (.iconst 1, 1, 1, 0, 0), (.iadd, 1, 0, 0, 0), (.putfield 27, 3, 0, 7, 2), (.iload_n 1, 1, 0, 0, 0), (.bipush 40, 2, 40, 0, 0)] 21 = true := by decide +kernel
theorem R_opened_s24 : zseg (zown R_opened) (zcode R_opened) 24 [(.aload_n 0, 1, 0, 0, 0), (.iload_n 2, 1, 0, 0, 0), (.iconst 1, 1, 1, 0, 0), (.iadd, 1, 0, 0, 0)] 28 = true := by decide +kernel
theorem R_opened_s34 : zseg (zown R_opened) (zcode R_opened) 34 [(.aload_n 0, 1, 0, 0, 0), (.bipush 41, 2, 41, 0, 0)] 37 = true := by decide +kernel
theorem R_opened_s43 : zseg (zown R_opened) (zcode R_opened) 43 [(.iconst 1, 1, 1, 0, 0), (.goto 4, 3, 0, 0, 0)] 48 = true := by decide +kernel
theorem R_opened_s47 : zseg (zown R_opened) (zcode R_opened) 47 [(.iconst 0, 1, 0, 0, 0)] 48 = true := by decide +kernel
theorem R_opened_s49 : zseg (zown R_opened) (zcode R_opened) 49 [(.aload_n 0, 1, 0, 0, 0), (.iload_n 2, 1, 0, 0, 0), (.iconst 1, 1, 1, 0, 0), (.iadd, 1, 0, 0, 0)] 53 = true := by decide +kernel
theorem R_opened_s59 : zseg (zown R_opened) (zcode R_opened) 59 [(.iconst 0, 1, 0, 0, 0)] 60 = true := by decide +kernel
theorem R_opened_s61 : zseg (zown R_opened) (zcode R_opened) 61 [(.aload_n 0, 1, 0, 0, 0), (.getfield 16, 3, 0, 7, 3), (.iload_n 1, 1, 0, 0, 0), (.bipush 45, 2, 45, 0, 0)] 68 = true := by decide +kernel
theorem R_opened_s71 : zseg (zown R_opened) (zcode R_opened) 71 [(.bipush 126, 2, 126, 0, 0), (.goto 4, 3, 0, 0, 0), (.iconst 0, 1, 0, 0, 0)] 78 = true := by decide +kernel
theorem R_opened_s76 : zseg (zown R_opened) (zcode R_opened) 76 [(.iload_n 1, 1, 0, 0, 0), (.iconst 0, 1, 0, 0, 0)] 78 = true := by decide +kernel
theorem R_opened_s81 : zseg (zown R_opened) (zcode R_opened) 81 [(.iconst 1, 1, 1, 0, 0)] 82 = true := by decide +kernel
theorem R_opened_d3 : decode (zcode R_opened) 3 = .ok (.if_icmp .lt 5, 3) := by decide +kernel
theorem R_opened_d7 : decode (zcode R_opened) 7 = .ok (.ireturn, 1) := by decide +kernel
theorem R_opened_d21 : decode (zcode R_opened) 21 = .ok (.if_icmp .ne 28, 3) := by decide +kernel
theorem R_opened_d28 : decode (zcode R_opened) 28 = .ok (.invokevirtual 42, 3) := by decide +kernel
theorem R_opened_d31 : decode (zcode R_opened) 31 = .ok (.ifCond .eq 16, 3) := by decide +kernel
theorem R_opened_d37 : decode (zcode R_opened) 37 = .ok (.invokevirtual 34, 3) := by decide +kernel
theorem R_opened_d40 : decode (zcode R_opened) 40 = .ok (.ifCond .eq 7, 3) := by decide +kernel
theorem R_opened_d48 : decode (zcode R_opened) 48 = .ok (.ireturn, 1) := by decide +kernel
theorem R_opened_d53 : decode (zcode R_opened) 53 = .ok (.invokevirtual 64, 3) := by decide +kernel
theorem R_opened_d56 : decode (zcode R_opened) 56 = .ok (.ifCond .ne 5, 3) := by decide +kernel
theorem R_opened_d60 : decode (zcode R_opened) 60 = .ok (.ireturn, 1) := by decide +kernel
theorem R_opened_d68 : decode (zcode R_opened) 68 = .ok (.if_icmp .ne 8, 3) := by decide +kernel
theorem R_opened_d78 : decode (zcode R_opened) 78 = .ok (.invokevirtual 45, 3) := by decide +kernel
theorem R_opened_d82 : decode (zcode R_opened) 82 = .ok (.ireturn, 1) := by decide +kernel
theorem R_number_s0 : zseg (zown R_number) (zcode R_number) 0 [(.iconst 0, 1, 0, 0, 0), (.istore_n 1, 1, 0, 0, 0), (.iconst 0, 1, 0, 0, 0), (.istore_n 2, 1, 0, 0, 0)] 4 = true := by decide +kernel
theorem R_number_s4 : zseg (zown R_number) (zcode R_number) 4 [(.iload_n 2, 1, 0, 0, 0), (.iconst 4, 1, 4, 0, 0)] 6 = true := by decide +kernel
theorem R_number_s9 : zseg (zown R_number) (zcode R_number) 9 [(.aload_n 0, 1, 0, 0, 0)] 10 = true := by decide +kernel
theorem R_number_s13 : zseg (zown R_number) (zcode R_number) 13 [(.bipush 48, 2, 48, 0, 0)] 15 = true := by decide +kernel
theorem R_number_s18 : zseg (zown R_number) (zcode R_number) 18 [(.aload_n 0, 1, 0, 0, 0)] 19 = true := by decide +kernel
theorem R_number_s22 : zseg (zown R_number) (zcode R_number) 22 [(.bipush 57, 2, 57, 0, 0)] 24 = true := by decide +kernel
theorem R_number_s27 : zseg (zown R_number) (zcode R_number) 27 [(.iload_n 1, 1, 0, 0, 0), (.bipush 10, 2, 10, 0, 0), (.imul, 1, 0, 0, 0), (.aload_n 0, 1, 0, 0, 0)] 32 = true := by decide +kernel
theorem R_number_s35 : zseg (zown R_number) (zcode R_number) 35 [(.iadd, 1, 0, 0, 0), (.bipush 48, 2, 48, 0, 0), (.isub, 1, 0, 0, 0), (.istore_n 1, 1, 0, 0, 0), (.aload_n 0, 1, 0, 0, 0), (.dup, 1, 0, 0, 0), (.getfield 27, 3, 0, 7, 2), (.iconst 1, 1, 1, 0, 0), (.iadd, 1, 0, 0, 0), (.putfield 27, 3, 0, 7, 2), (.iinc 2 1, 3, 1, 0, 0), (.goto (-49), 3, 0, 0, 0)] 4 = true := by decide +kernel
theorem R_number_s56 : zseg (zown R_number) (zcode R_number) 56 [(.aload_n 0, 1, 0, 0, 0), (.getfield 16, 3, 0, 7, 3), (.bipush 35, 2, 35, 0, 0), (.iload_n 1, 1, 0, 0, 0)] 63 = true := by decide +kernel
theorem R_number_d6 : decode (zcode R_number) 6 = .ok (.if_icmp .ge 50, 3) := by decide +kernel
theorem R_number_d10 : decode (zcode R_number) 10 = .ok (.invokevirtual 38, 3) := by decide +kernel
theorem R_number_d15 : decode (zcode R_number) 15 = .ok (.if_icmp .lt 41, 3) := by decide +kernel
theorem R_number_d19 : decode (zcode R_number) 19 = .ok (.invokevirtual 38, 3) := by decide +kernel
theorem R_number_d24 : decode (zcode R_number) 24 = .ok (.if_icmp .gt 32, 3) := by decide +kernel
theorem R_number_d32 : decode (zcode R_number) 32 = .ok (.invokevirtual 38, 3) := by decide +kernel
theorem R_number_d63 : decode (zcode R_number) 63 = .ok (.invokevirtual 45, 3) := by decide +kernel
theorem R_number_d66 : decode (zcode R_number) 66 = .ok (.return_, 1) := by decide +kernel
theorem S_isEmpty_s0 : zseg (zown S_isEmpty) (zcode S_isEmpty) 0 [(.aload_n 0, 1, 0, 0, 0), (.getfield 15, 3, 0, 8, 1), (.iconst (-1), 1, (-1), 0, 0)] 5 = true := by decide +kernel
theorem S_isEmpty_s8 : zseg (zown S_isEmpty) (zcode S_isEmpty) 8 [(.aload_n 0, 1, 0, 0, 0), (.getfield 19, 3, 0, 8, 2), (.iconst (-1), 1, (-1), 0, 0)] 13 = true := by decide +kernel
theorem S_isEmpty_s16 : zseg (zown S_isEmpty) (zcode S_isEmpty) 16 [(.iconst 1, 1, 1, 0, 0), (.goto 4, 3, 0, 0, 0)] 21 = true := by decide +kernel
theorem S_isEmpty_s20 : zseg (zown S_isEmpty) (zcode S_isEmpty) 20 [(.iconst 0, 1, 0, 0, 0)] 21 = true := by decide +kernel
theorem S_isEmpty_d5 : decode (zcode S_isEmpty) 5 = .ok (.if_icmp .ne 15, 3) := by decide +kernel
theorem S_isEmpty_d13 : decode (zcode S_isEmpty) 13 = .ok (.if_icmp .ne 7, 3) := by decide +kernel
theorem S_isEmpty_d21 : decode (zcode S_isEmpty) 21 = .ok (.ireturn, 1) := by decide +kernel
theorem S_isRow_s0 : zseg (zown S_isRow) (zcode S_isRow) 0 [(.aload_n 0, 1, 0, 0, 0), (.getfield 19, 3, 0, 8, 2), (.iconst (-1), 1, (-1), 0, 0)] 5 = true := by decide +kernel
theorem S_isRow_s8 : zseg (zown S_isRow) (zcode S_isRow) 8 [(.iconst 1, 1, 1, 0, 0), (.goto 4, 3, 0, 0, 0)] 13 = true := by decide +kernel
theorem S_isRow_s12 : zseg (zown S_isRow) (zcode S_isRow) 12 [(.iconst 0, 1, 0, 0, 0)] 13 = true := by decide +kernel
theorem S_isRow_d5 : decode (zcode S_isRow) 5 = .ok (.if_icmp .eq 7, 3) := by decide +kernel
theorem S_isRow_d13 : decode (zcode S_isRow) 13 = .ok (.ireturn, 1) := by decide +kernel
theorem S_isRowOf_s0 : zseg (zown S_isRowOf) (zcode S_isRowOf) 0 [(.aload_n 0, 1, 0, 0, 0)] 1 = true := by decide +kernel
theorem S_isRowOf_s7 : zseg (zown S_isRowOf) (zcode S_isRowOf) 7 [(.aload_n 0, 1, 0, 0, 0), (.getfield 19, 3, 0, 8, 2), (.iload_n 1, 1, 0, 0, 0)] 12 = true := by decide +kernel
theorem S_isRowOf_s15 : zseg (zown S_isRowOf) (zcode S_isRowOf) 15 [(.iconst 1, 1, 1, 0, 0), (.goto 4, 3, 0, 0, 0)] 20 = true := by decide +kernel
theorem S_isRowOf_s19 : zseg (zown S_isRowOf) (zcode S_isRowOf) 19 [(.iconst 0, 1, 0, 0, 0)] 20 = true := by decide +kernel
theorem S_isRowOf_d1 : decode (zcode S_isRowOf) 1 = .ok (.invokevirtual 22, 3) := by decide +kernel
theorem S_isRowOf_d4 : decode (zcode S_isRowOf) 4 = .ok (.ifCond .eq 15, 3) := by decide +kernel
theorem S_isRowOf_d12 : decode (zcode S_isRowOf) 12 = .ok (.if_icmp .ne 7, 3) := by decide +kernel
theorem S_isRowOf_d20 : decode (zcode S_isRowOf) 20 = .ok (.ireturn, 1) := by decide +kernel
theorem S_hasPlaces_s0 : zseg (zown S_hasPlaces) (zcode S_hasPlaces) 0 [(.iload_n 1, 1, 0, 0, 0)] 1 = true := by decide +kernel
theorem S_hasPlaces_s4 : zseg (zown S_hasPlaces) (zcode S_hasPlaces) 4 [(.iload_n 2, 1, 0, 0, 0)] 5 = true := by decide +kernel
theorem S_hasPlaces_s8 : zseg (zown S_hasPlaces) (zcode S_hasPlaces) 8 [(.iload_n 1, 1, 0, 0, 0), (.aload_n 0, 1, 0, 0, 0), (.getfield 26, 3, 0, 8, 3)] 13 = true := by decide +kernel
theorem S_hasPlaces_s16 : zseg (zown S_hasPlaces) (zcode S_hasPlaces) 16 [(.iload_n 2, 1, 0, 0, 0), (.aload_n 0, 1, 0, 0, 0), (.getfield 26, 3, 0, 8, 3), (.iload_n 1, 1, 0, 0, 0), (.isub, 1, 0, 0, 0)] 23 = true := by decide +kernel
theorem S_hasPlaces_s26 : zseg (zown S_hasPlaces) (zcode S_hasPlaces) 26 [(.iconst 1, 1, 1, 0, 0), (.goto 4, 3, 0, 0, 0)] 31 = true := by decide +kernel
theorem S_hasPlaces_s30 : zseg (zown S_hasPlaces) (zcode S_hasPlaces) 30 [(.iconst 0, 1, 0, 0, 0)] 31 = true := by decide +kernel
theorem S_hasPlaces_d1 : decode (zcode S_hasPlaces) 1 = .ok (.ifCond .lt 29, 3) := by decide +kernel
theorem S_hasPlaces_d5 : decode (zcode S_hasPlaces) 5 = .ok (.ifCond .lt 25, 3) := by decide +kernel
theorem S_hasPlaces_d13 : decode (zcode S_hasPlaces) 13 = .ok (.if_icmp .gt 17, 3) := by decide +kernel
theorem S_hasPlaces_d23 : decode (zcode S_hasPlaces) 23 = .ok (.if_icmp .gt 7, 3) := by decide +kernel
theorem S_hasPlaces_d31 : decode (zcode S_hasPlaces) 31 = .ok (.ireturn, 1) := by decide +kernel
theorem S_refusalFor_s0 : zseg (zown S_refusalFor) (zcode S_refusalFor) 0 [(.aload_n 0, 1, 0, 0, 0)] 1 = true := by decide +kernel
theorem S_refusalFor_s7 : zseg (zown S_refusalFor) (zcode S_refusalFor) 7 [(.bipush (-11), 2, (-11), 0, 0)] 9 = true := by decide +kernel
theorem S_refusalFor_s10 : zseg (zown S_refusalFor) (zcode S_refusalFor) 10 [(.aload_n 0, 1, 0, 0, 0), (.iload_n 1, 1, 0, 0, 0)] 12 = true := by decide +kernel
theorem S_refusalFor_s18 : zseg (zown S_refusalFor) (zcode S_refusalFor) 18 [(.iconst 0, 1, 0, 0, 0), (.goto 5, 3, 0, 0, 0)] 24 = true := by decide +kernel
theorem S_refusalFor_s22 : zseg (zown S_refusalFor) (zcode S_refusalFor) 22 [(.bipush (-12), 2, (-12), 0, 0)] 24 = true := by decide +kernel
theorem S_refusalFor_d1 : decode (zcode S_refusalFor) 1 = .ok (.invokevirtual 29, 3) := by decide +kernel
theorem S_refusalFor_d4 : decode (zcode S_refusalFor) 4 = .ok (.ifCond .eq 6, 3) := by decide +kernel
theorem S_refusalFor_d9 : decode (zcode S_refusalFor) 9 = .ok (.ireturn, 1) := by decide +kernel
theorem S_refusalFor_d12 : decode (zcode S_refusalFor) 12 = .ok (.invokevirtual 32, 3) := by decide +kernel
theorem S_refusalFor_d15 : decode (zcode S_refusalFor) 15 = .ok (.ifCond .eq 7, 3) := by decide +kernel
theorem S_refusalFor_d24 : decode (zcode S_refusalFor) 24 = .ok (.ireturn, 1) := by decide +kernel
theorem S_refusalAt_s0 : zseg (zown S_refusalAt) (zcode S_refusalAt) 0 [(.aload_n 0, 1, 0, 0, 0)] 1 = true := by decide +kernel
theorem S_refusalAt_s7 : zseg (zown S_refusalAt) (zcode S_refusalAt) 7 [(.bipush (-11), 2, (-11), 0, 0)] 9 = true := by decide +kernel
theorem S_refusalAt_s10 : zseg (zown S_refusalAt) (zcode S_refusalAt) 10 [(.aload_n 0, 1, 0, 0, 0)] 11 = true := by decide +kernel
theorem S_refusalAt_s17 : zseg (zown S_refusalAt) (zcode S_refusalAt) 17 [(.bipush (-12), 2, (-12), 0, 0)] 19 = true := by decide +kernel
theorem S_refusalAt_s20 : zseg (zown S_refusalAt) (zcode S_refusalAt) 20 [(.aload_n 0, 1, 0, 0, 0), (.iload_n 1, 1, 0, 0, 0), (.iconst 1, 1, 1, 0, 0)] 23 = true := by decide +kernel
theorem S_refusalAt_s29 : zseg (zown S_refusalAt) (zcode S_refusalAt) 29 [(.iconst 0, 1, 0, 0, 0), (.goto 5, 3, 0, 0, 0)] 35 = true := by decide +kernel
theorem S_refusalAt_s33 : zseg (zown S_refusalAt) (zcode S_refusalAt) 33 [(.bipush (-13), 2, (-13), 0, 0)] 35 = true := by decide +kernel
theorem S_refusalAt_d1 : decode (zcode S_refusalAt) 1 = .ok (.invokevirtual 29, 3) := by decide +kernel
theorem S_refusalAt_d4 : decode (zcode S_refusalAt) 4 = .ok (.ifCond .eq 6, 3) := by decide +kernel
theorem S_refusalAt_d9 : decode (zcode S_refusalAt) 9 = .ok (.ireturn, 1) := by decide +kernel
theorem S_refusalAt_d11 : decode (zcode S_refusalAt) 11 = .ok (.invokevirtual 22, 3) := by decide +kernel
theorem S_refusalAt_d14 : decode (zcode S_refusalAt) 14 = .ok (.ifCond .ne 6, 3) := by decide +kernel
theorem S_refusalAt_d19 : decode (zcode S_refusalAt) 19 = .ok (.ireturn, 1) := by decide +kernel
theorem S_refusalAt_d23 : decode (zcode S_refusalAt) 23 = .ok (.invokevirtual 36, 3) := by decide +kernel
theorem S_refusalAt_d26 : decode (zcode S_refusalAt) 26 = .ok (.ifCond .eq 7, 3) := by decide +kernel
theorem S_refusalAt_d35 : decode (zcode S_refusalAt) 35 = .ok (.ireturn, 1) := by decide +kernel
theorem S_clear_s0 : zseg (zown S_clear) (zcode S_clear) 0 [(.aload_n 0, 1, 0, 0, 0), (.iconst (-1), 1, (-1), 0, 0), (.putfield 15, 3, 0, 8, 1), (.aload_n 0, 1, 0, 0, 0), (.iconst (-1), 1, (-1), 0, 0), (.putfield 19, 3, 0, 8, 2), (.aload_n 0, 1, 0, 0, 0), (.iconst 0, 1, 0, 0, 0), (.putfield 26, 3, 0, 8, 3)] 15 = true := by decide +kernel
theorem S_clear_d15 : decode (zcode S_clear) 15 = .ok (.return_, 1) := by decide +kernel
theorem S_hold_s0 : zseg (zown S_hold) (zcode S_hold) 0 [(.aload_n 0, 1, 0, 0, 0)] 1 = true := by decide +kernel
theorem S_hold_s4 : zseg (zown S_hold) (zcode S_hold) 4 [(.aload_n 0, 1, 0, 0, 0), (.iload_n 1, 1, 0, 0, 0), (.putfield 15, 3, 0, 8, 1)] 9 = true := by decide +kernel
theorem S_hold_d1 : decode (zcode S_hold) 1 = .ok (.invokevirtual 40, 3) := by decide +kernel
theorem S_hold_d9 : decode (zcode S_hold) 9 = .ok (.return_, 1) := by decide +kernel
theorem S_lay_s0 : zseg (zown S_lay) (zcode S_lay) 0 [(.aload_n 0, 1, 0, 0, 0)] 1 = true := by decide +kernel
theorem S_lay_s4 : zseg (zown S_lay) (zcode S_lay) 4 [(.aload_n 0, 1, 0, 0, 0), (.iload_n 1, 1, 0, 0, 0), (.putfield 19, 3, 0, 8, 2), (.aload_n 0, 1, 0, 0, 0), (.iload_n 2, 1, 0, 0, 0), (.putfield 26, 3, 0, 8, 3), (.aload_n 0, 1, 0, 0, 0), (.getfield 11, 3, 0, 8, 0), (.lconst 0, 1, 0, 0, 0)] 19 = true := by decide +kernel
theorem S_lay_d1 : decode (zcode S_lay) 1 = .ok (.invokevirtual 40, 3) := by decide +kernel
theorem S_lay_d19 : decode (zcode S_lay) 19 = .ok (.invokestatic 43, 3) := by decide +kernel
theorem S_lay_d22 : decode (zcode S_lay) 22 = .ok (.return_, 1) := by decide +kernel
theorem S_narrowed_s0 : zseg (zown S_narrowed) (zcode S_narrowed) 0 [(.aload_n 0, 1, 0, 0, 0), (.getfield 19, 3, 0, 8, 2)] 4 = true := by decide +kernel
theorem S_narrowed_s36 : zseg (zown S_narrowed) (zcode S_narrowed) 36 [(.lload_n 1, 1, 0, 0, 0), (.l2i, 1, 0, 0, 0), (.i2b, 1, 0, 0, 0), (.i2l, 1, 0, 0, 0)] 40 = true := by decide +kernel
theorem S_narrowed_s41 : zseg (zown S_narrowed) (zcode S_narrowed) 41 [(.lload_n 1, 1, 0, 0, 0), (.l2i, 1, 0, 0, 0), (.i2s, 1, 0, 0, 0), (.i2l, 1, 0, 0, 0)] 45 = true := by decide +kernel
theorem S_narrowed_s46 : zseg (zown S_narrowed) (zcode S_narrowed) 46 [(.lload_n 1, 1, 0, 0, 0), (.l2i, 1, 0, 0, 0), (.i2l, 1, 0, 0, 0)] 49 = true := by decide +kernel
theorem S_narrowed_s50 : zseg (zown S_narrowed) (zcode S_narrowed) 50 [(.lload_n 1, 1, 0, 0, 0)] 51 = true := by decide +kernel
theorem S_narrowed_s52 : zseg (zown S_narrowed) (zcode S_narrowed) 52 [(.lload_n 1, 1, 0, 0, 0), (.lconst 0, 1, 0, 0, 0), (.lcmp, 1, 0, 0, 0)] 55 = true := by decide +kernel
theorem S_narrowed_s58 : zseg (zown S_narrowed) (zcode S_narrowed) 58 [(.iconst 1, 1, 1, 0, 0), (.goto 4, 3, 0, 0, 0)] 63 = true := by decide +kernel
theorem S_narrowed_s62 : zseg (zown S_narrowed) (zcode S_narrowed) 62 [(.iconst 0, 1, 0, 0, 0)] 63 = true := by decide +kernel
theorem S_narrowed_s66 : zseg (zown S_narrowed) (zcode S_narrowed) 66 [(.i2l, 1, 0, 0, 0)] 67 = true := by decide +kernel
theorem S_narrowed_d4 : decode (zcode S_narrowed) 4 = .ok (.tableswitch 48 0 3 #[32, 37, 42, 46], 32) := by decide +kernel
theorem S_narrowed_d40 : decode (zcode S_narrowed) 40 = .ok (.lreturn, 1) := by decide +kernel
theorem S_narrowed_d45 : decode (zcode S_narrowed) 45 = .ok (.lreturn, 1) := by decide +kernel
theorem S_narrowed_d49 : decode (zcode S_narrowed) 49 = .ok (.lreturn, 1) := by decide +kernel
theorem S_narrowed_d51 : decode (zcode S_narrowed) 51 = .ok (.lreturn, 1) := by decide +kernel
theorem S_narrowed_d55 : decode (zcode S_narrowed) 55 = .ok (.ifCond .eq 7, 3) := by decide +kernel
theorem S_narrowed_d63 : decode (zcode S_narrowed) 63 = .ok (.invokestatic 49, 3) := by decide +kernel
theorem S_narrowed_d67 : decode (zcode S_narrowed) 67 = .ok (.lreturn, 1) := by decide +kernel
theorem O_bellsOff_s0 : zseg (zown O_bellsOff) (zcode O_bellsOff) 0 [(.aload_n 0, 1, 0, 0, 0), (.getfield 18, 3, 0, 9, 0), (.aload_n 0, 1, 0, 0, 0), (.getfield 9, 3, 0, 9, 1), (.iload_n 1, 1, 0, 0, 0), (.iload_n 2, 1, 0, 0, 0), (.iconst 0, 1, 0, 0, 0)] 11 = true := by decide +kernel
theorem O_bellsOff_s14 : zseg (zown O_bellsOff) (zcode O_bellsOff) 14 [(.aload_n 0, 1, 0, 0, 0), (.getfield 9, 3, 0, 9, 1)] 18 = true := by decide +kernel
theorem O_bellsOff_d11 : decode (zcode O_bellsOff) 11 = .ok (.invokevirtual 22, 3) := by decide +kernel
theorem O_bellsOff_d18 : decode (zcode O_bellsOff) 18 = .ok (.invokestatic 28, 3) := by decide +kernel
theorem O_bellsOff_d21 : decode (zcode O_bellsOff) 21 = .ok (.ireturn, 1) := by decide +kernel
theorem O_firstOff_s0 : zseg (zown O_firstOff) (zcode O_firstOff) 0 [(.aload_n 0, 1, 0, 0, 0), (.getfield 18, 3, 0, 9, 0), (.aload_n 0, 1, 0, 0, 0), (.getfield 9, 3, 0, 9, 1), (.iload_n 1, 1, 0, 0, 0), (.iload_n 2, 1, 0, 0, 0), (.iconst 0, 1, 0, 0, 0)] 11 = true := by decide +kernel
theorem O_firstOff_s14 : zseg (zown O_firstOff) (zcode O_firstOff) 14 [(.iconst 0, 1, 0, 0, 0), (.istore_n 3, 1, 0, 0, 0)] 16 = true := by decide +kernel
theorem O_firstOff_s16 : zseg (zown O_firstOff) (zcode O_firstOff) 16 [(.iload_n 3, 1, 0, 0, 0), (.bipush 6, 2, 6, 0, 0)] 19 = true := by decide +kernel
theorem O_firstOff_s22 : zseg (zown O_firstOff) (zcode O_firstOff) 22 [(.aload_n 0, 1, 0, 0, 0), (.getfield 9, 3, 0, 9, 1), (.iload_n 3, 1, 0, 0, 0), (.iaload, 1, 0, 0, 0)] 28 = true := by decide +kernel
theorem O_firstOff_s31 : zseg (zown O_firstOff) (zcode O_firstOff) 31 [(.iload_n 3, 1, 0, 0, 0)] 32 = true := by decide +kernel
theorem O_firstOff_s33 : zseg (zown O_firstOff) (zcode O_firstOff) 33 [(.iinc 3 1, 3, 1, 0, 0), (.goto (-20), 3, 0, 0, 0)] 16 = true := by decide +kernel
theorem O_firstOff_s39 : zseg (zown O_firstOff) (zcode O_firstOff) 39 [(.bipush (-2), 2, (-2), 0, 0)] 41 = true := by decide +kernel
theorem O_firstOff_d11 : decode (zcode O_firstOff) 11 = .ok (.invokevirtual 22, 3) := by decide +kernel
theorem O_firstOff_d19 : decode (zcode O_firstOff) 19 = .ok (.if_icmp .ge 20, 3) := by decide +kernel
theorem O_firstOff_d28 : decode (zcode O_firstOff) 28 = .ok (.ifCond .eq 5, 3) := by decide +kernel
theorem O_firstOff_d32 : decode (zcode O_firstOff) 32 = .ok (.ireturn, 1) := by decide +kernel
theorem O_firstOff_d41 : decode (zcode O_firstOff) 41 = .ok (.ireturn, 1) := by decide +kernel
theorem O_vowsBroken_s0 : zseg (zown O_vowsBroken) (zcode O_vowsBroken) 0 [(.iconst 0, 1, 0, 0, 0), (.istore_n 2, 1, 0, 0, 0), (.iconst 0, 1, 0, 0, 0), (.istore_n 3, 1, 0, 0, 0)] 4 = true := by decide +kernel
theorem O_vowsBroken_s4 : zseg (zown O_vowsBroken) (zcode O_vowsBroken) 4 [(.iload_n 3, 1, 0, 0, 0), (.aload_n 0, 1, 0, 0, 0), (.getfield 18, 3, 0, 9, 0), (.getfield 32, 3, 0, 4, 8)] 12 = true := by decide +kernel
theorem O_vowsBroken_s15 : zseg (zown O_vowsBroken) (zcode O_vowsBroken) 15 [(.iload_n 2, 1, 0, 0, 0), (.aload_n 0, 1, 0, 0, 0), (.getfield 18, 3, 0, 9, 0), (.iload_n 3, 1, 0, 0, 0), (.iload_n 1, 1, 0, 0, 0)] 22 = true := by decide +kernel
theorem O_vowsBroken_s28 : zseg (zown O_vowsBroken) (zcode O_vowsBroken) 28 [(.iconst 1, 1, 1, 0, 0), (.goto 4, 3, 0, 0, 0)] 33 = true := by decide +kernel
theorem O_vowsBroken_s32 : zseg (zown O_vowsBroken) (zcode O_vowsBroken) 32 [(.iconst 0, 1, 0, 0, 0)] 33 = true := by decide +kernel
theorem O_vowsBroken_s36 : zseg (zown O_vowsBroken) (zcode O_vowsBroken) 36 [(.iadd, 1, 0, 0, 0), (.istore_n 2, 1, 0, 0, 0), (.iinc 3 1, 3, 1, 0, 0), (.goto (-37), 3, 0, 0, 0)] 4 = true := by decide +kernel
theorem O_vowsBroken_s44 : zseg (zown O_vowsBroken) (zcode O_vowsBroken) 44 [(.iload_n 2, 1, 0, 0, 0)] 45 = true := by decide +kernel
theorem O_vowsBroken_d12 : decode (zcode O_vowsBroken) 12 = .ok (.if_icmp .ge 32, 3) := by decide +kernel
theorem O_vowsBroken_d22 : decode (zcode O_vowsBroken) 22 = .ok (.invokevirtual 36, 3) := by decide +kernel
theorem O_vowsBroken_d25 : decode (zcode O_vowsBroken) 25 = .ok (.ifCond .ne 7, 3) := by decide +kernel
theorem O_vowsBroken_d33 : decode (zcode O_vowsBroken) 33 = .ok (.invokestatic 40, 3) := by decide +kernel
theorem O_vowsBroken_d45 : decode (zcode O_vowsBroken) 45 = .ok (.ireturn, 1) := by decide +kernel
theorem O_worstVow_s0 : zseg (zown O_worstVow) (zcode O_worstVow) 0 [(.bipush (-2), 2, (-2), 0, 0), (.istore_n 3, 1, 0, 0, 0), (.iconst (-1), 1, (-1), 0, 0), (.istore 4, 2, 0, 0, 0), (.iconst 0, 1, 0, 0, 0), (.istore 5, 2, 0, 0, 0)] 9 = true := by decide +kernel
theorem O_worstVow_s9 : zseg (zown O_worstVow) (zcode O_worstVow) 9 [(.iload 5, 2, 0, 0, 0), (.aload_n 0, 1, 0, 0, 0), (.getfield 18, 3, 0, 9, 0), (.getfield 32, 3, 0, 4, 8)] 18 = true := by decide +kernel
theorem O_worstVow_s21 : zseg (zown O_worstVow) (zcode O_worstVow) 21 [(.aload_n 0, 1, 0, 0, 0), (.getfield 18, 3, 0, 9, 0), (.iload 5, 2, 0, 0, 0), (.iload_n 1, 1, 0, 0, 0), (.iload_n 2, 1, 0, 0, 0)] 29 = true := by decide +kernel
theorem O_worstVow_s35 : zseg (zown O_worstVow) (zcode O_worstVow) 35 [(.istore 6, 2, 0, 0, 0), (.iload 6, 2, 0, 0, 0), (.iload 4, 2, 0, 0, 0)] 41 = true := by decide +kernel
theorem O_worstVow_s44 : zseg (zown O_worstVow) (zcode O_worstVow) 44 [(.iload 6, 2, 0, 0, 0), (.istore 4, 2, 0, 0, 0), (.iload 5, 2, 0, 0, 0), (.istore_n 3, 1, 0, 0, 0), (.iinc 5 1, 3, 1, 0, 0), (.goto (-45), 3, 0, 0, 0)] 9 = true := by decide +kernel
theorem O_worstVow_s51 : zseg (zown O_worstVow) (zcode O_worstVow) 51 [(.iinc 5 1, 3, 1, 0, 0), (.goto (-45), 3, 0, 0, 0)] 9 = true := by decide +kernel
theorem O_worstVow_s57 : zseg (zown O_worstVow) (zcode O_worstVow) 57 [(.iload_n 3, 1, 0, 0, 0)] 58 = true := by decide +kernel
theorem O_worstVow_d18 : decode (zcode O_worstVow) 18 = .ok (.if_icmp .ge 39, 3) := by decide +kernel
theorem O_worstVow_d29 : decode (zcode O_worstVow) 29 = .ok (.invokevirtual 44, 3) := by decide +kernel
theorem O_worstVow_d32 : decode (zcode O_worstVow) 32 = .ok (.invokestatic 48, 3) := by decide +kernel
theorem O_worstVow_d41 : decode (zcode O_worstVow) 41 = .ok (.if_icmp .le 10, 3) := by decide +kernel
theorem O_worstVow_d58 : decode (zcode O_worstVow) 58 = .ok (.ireturn, 1) := by decide +kernel
theorem O_strikeAll_s0 : zseg (zown O_strikeAll) (zcode O_strikeAll) 0 [(.aload_n 0, 1, 0, 0, 0), (.getfield 18, 3, 0, 9, 0), (.aload_n 0, 1, 0, 0, 0), (.getfield 9, 3, 0, 9, 1), (.iload_n 1, 1, 0, 0, 0), (.iload_n 2, 1, 0, 0, 0), (.iconst 0, 1, 0, 0, 0)] 11 = true := by decide +kernel
theorem O_strikeAll_s14 : zseg (zown O_strikeAll) (zcode O_strikeAll) 14 [(.iconst 0, 1, 0, 0, 0), (.istore_n 3, 1, 0, 0, 0)] 16 = true := by decide +kernel
theorem O_strikeAll_s16 : zseg (zown O_strikeAll) (zcode O_strikeAll) 16 [(.iload_n 3, 1, 0, 0, 0), (.bipush 6, 2, 6, 0, 0)] 19 = true := by decide +kernel
theorem O_strikeAll_s22 : zseg (zown O_strikeAll) (zcode O_strikeAll) 22 [(.aload_n 0, 1, 0, 0, 0), (.getfield 15, 3, 0, 9, 2), (.iload_n 3, 1, 0, 0, 0), (.aload_n 0, 1, 0, 0, 0), (.getfield 18, 3, 0, 9, 0), (.getfield 54, 3, 0, 4, 0), (.iload_n 3, 1, 0, 0, 0), (.iaload, 1, 0, 0, 0), (.aload_n 0, 1, 0, 0, 0), (.getfield 9, 3, 0, 9, 1), (.iload_n 3, 1, 0, 0, 0), (.iaload, 1, 0, 0, 0), (.iadd, 1, 0, 0, 0), (.iastore, 1, 0, 0, 0), (.iinc 3 1, 3, 1, 0, 0), (.goto (-31), 3, 0, 0, 0)] 16 = true := by decide +kernel
theorem O_strikeAll_d11 : decode (zcode O_strikeAll) 11 = .ok (.invokevirtual 22, 3) := by decide +kernel
theorem O_strikeAll_d19 : decode (zcode O_strikeAll) 19 = .ok (.if_icmp .ge 31, 3) := by decide +kernel
theorem O_strikeAll_d50 : decode (zcode O_strikeAll) 50 = .ok (.return_, 1) := by decide +kernel
theorem O_beatsOf_s0 : zseg (zown O_beatsOf) (zcode O_beatsOf) 0 [(.aload_n 0, 1, 0, 0, 0), (.getfield 18, 3, 0, 9, 0), (.getfield 57, 3, 0, 4, 1), (.iload_n 1, 1, 0, 0, 0), (.iaload, 1, 0, 0, 0), (.istore_n 3, 1, 0, 0, 0), (.iload_n 3, 1, 0, 0, 0), (.iconst 1, 1, 1, 0, 0)] 12 = true := by decide +kernel
theorem O_beatsOf_s15 : zseg (zown O_beatsOf) (zcode O_beatsOf) 15 [(.iconst 0, 1, 0, 0, 0)] 16 = true := by decide +kernel
theorem O_beatsOf_s17 : zseg (zown O_beatsOf) (zcode O_beatsOf) 17 [(.aload_n 0, 1, 0, 0, 0), (.getfield 15, 3, 0, 9, 2), (.iload_n 1, 1, 0, 0, 0), (.iaload, 1, 0, 0, 0), (.aload_n 0, 1, 0, 0, 0), (.getfield 15, 3, 0, 9, 2), (.iload_n 2, 1, 0, 0, 0), (.iaload, 1, 0, 0, 0), (.isub, 1, 0, 0, 0)] 30 = true := by decide +kernel
theorem O_beatsOf_s33 : zseg (zown O_beatsOf) (zcode O_beatsOf) 33 [(.iload_n 3, 1, 0, 0, 0), (.irem, 1, 0, 0, 0), (.istore 4, 2, 0, 0, 0), (.iload 4, 2, 0, 0, 0), (.iload_n 3, 1, 0, 0, 0), (.iload 4, 2, 0, 0, 0), (.isub, 1, 0, 0, 0)] 43 = true := by decide +kernel
theorem O_beatsOf_d12 : decode (zcode O_beatsOf) 12 = .ok (.if_icmp .ge 5, 3) := by decide +kernel
theorem O_beatsOf_d16 : decode (zcode O_beatsOf) 16 = .ok (.ireturn, 1) := by decide +kernel
theorem O_beatsOf_d30 : decode (zcode O_beatsOf) 30 = .ok (.invokestatic 48, 3) := by decide +kernel
theorem O_beatsOf_d43 : decode (zcode O_beatsOf) 43 = .ok (.invokestatic 60, 3) := by decide +kernel
theorem O_beatsOf_d46 : decode (zcode O_beatsOf) 46 = .ok (.ireturn, 1) := by decide +kernel
theorem O_purePairs_s0 : zseg (zown O_purePairs) (zcode O_purePairs) 0 [(.iconst 0, 1, 0, 0, 0), (.istore_n 2, 1, 0, 0, 0), (.iconst 0, 1, 0, 0, 0), (.istore_n 3, 1, 0, 0, 0)] 4 = true := by decide +kernel
theorem O_purePairs_s4 : zseg (zown O_purePairs) (zcode O_purePairs) 4 [(.iload_n 3, 1, 0, 0, 0), (.aload_n 0, 1, 0, 0, 0), (.getfield 18, 3, 0, 9, 0), (.getfield 64, 3, 0, 4, 7)] 12 = true := by decide +kernel
theorem O_purePairs_s15 : zseg (zown O_purePairs) (zcode O_purePairs) 15 [(.iload_n 3, 1, 0, 0, 0), (.iconst 1, 1, 1, 0, 0), (.iadd, 1, 0, 0, 0), (.istore 4, 2, 0, 0, 0)] 20 = true := by decide +kernel
theorem O_purePairs_s20 : zseg (zown O_purePairs) (zcode O_purePairs) 20 [(.iload 4, 2, 0, 0, 0), (.aload_n 0, 1, 0, 0, 0), (.getfield 18, 3, 0, 9, 0), (.getfield 64, 3, 0, 4, 7)] 29 = true := by decide +kernel
theorem O_purePairs_s32 : zseg (zown O_purePairs) (zcode O_purePairs) 32 [(.iload_n 2, 1, 0, 0, 0), (.iload_n 1, 1, 0, 0, 0), (.iload_n 3, 1, 0, 0, 0), (.iload 4, 2, 0, 0, 0)] 37 = true := by decide +kernel
theorem O_purePairs_s43 : zseg (zown O_purePairs) (zcode O_purePairs) 43 [(.aload_n 0, 1, 0, 0, 0), (.iload_n 3, 1, 0, 0, 0), (.iload 4, 2, 0, 0, 0)] 47 = true := by decide +kernel
theorem O_purePairs_s53 : zseg (zown O_purePairs) (zcode O_purePairs) 53 [(.iconst 1, 1, 1, 0, 0), (.goto 4, 3, 0, 0, 0)] 58 = true := by decide +kernel
theorem O_purePairs_s57 : zseg (zown O_purePairs) (zcode O_purePairs) 57 [(.iconst 0, 1, 0, 0, 0)] 58 = true := by decide +kernel
theorem O_purePairs_s61 : zseg (zown O_purePairs) (zcode O_purePairs) 61 [(.iadd, 1, 0, 0, 0), (.istore_n 2, 1, 0, 0, 0), (.iinc 4 1, 3, 1, 0, 0), (.goto (-46), 3, 0, 0, 0)] 20 = true := by decide +kernel
theorem O_purePairs_s69 : zseg (zown O_purePairs) (zcode O_purePairs) 69 [(.iinc 3 1, 3, 1, 0, 0), (.goto (-68), 3, 0, 0, 0)] 4 = true := by decide +kernel
theorem O_purePairs_s75 : zseg (zown O_purePairs) (zcode O_purePairs) 75 [(.iload_n 2, 1, 0, 0, 0)] 76 = true := by decide +kernel
theorem O_purePairs_d12 : decode (zcode O_purePairs) 12 = .ok (.if_icmp .ge 63, 3) := by decide +kernel
theorem O_purePairs_d29 : decode (zcode O_purePairs) 29 = .ok (.if_icmp .ge 40, 3) := by decide +kernel
theorem O_purePairs_d37 : decode (zcode O_purePairs) 37 = .ok (.invokestatic 67, 3) := by decide +kernel
theorem O_purePairs_d40 : decode (zcode O_purePairs) 40 = .ok (.ifCond .eq 17, 3) := by decide +kernel
theorem O_purePairs_d47 : decode (zcode O_purePairs) 47 = .ok (.invokevirtual 71, 3) := by decide +kernel
theorem O_purePairs_d50 : decode (zcode O_purePairs) 50 = .ok (.ifCond .ne 7, 3) := by decide +kernel
theorem O_purePairs_d58 : decode (zcode O_purePairs) 58 = .ok (.invokestatic 40, 3) := by decide +kernel
theorem O_purePairs_d76 : decode (zcode O_purePairs) 76 = .ok (.ireturn, 1) := by decide +kernel
theorem O_harshestPair_s0 : zseg (zown O_harshestPair) (zcode O_harshestPair) 0 [(.bipush (-2), 2, (-2), 0, 0), (.istore_n 2, 1, 0, 0, 0), (.iconst (-1), 1, (-1), 0, 0), (.istore_n 3, 1, 0, 0, 0), (.iconst 0, 1, 0, 0, 0), (.istore 4, 2, 0, 0, 0)] 8 = true := by decide +kernel
theorem O_harshestPair_s8 : zseg (zown O_harshestPair) (zcode O_harshestPair) 8 [(.iload 4, 2, 0, 0, 0), (.aload_n 0, 1, 0, 0, 0), (.getfield 18, 3, 0, 9, 0), (.getfield 64, 3, 0, 4, 7)] 17 = true := by decide +kernel
theorem O_harshestPair_s20 : zseg (zown O_harshestPair) (zcode O_harshestPair) 20 [(.iload 4, 2, 0, 0, 0), (.iconst 1, 1, 1, 0, 0), (.iadd, 1, 0, 0, 0), (.istore 5, 2, 0, 0, 0)] 26 = true := by decide +kernel
theorem O_harshestPair_s26 : zseg (zown O_harshestPair) (zcode O_harshestPair) 26 [(.iload 5, 2, 0, 0, 0), (.aload_n 0, 1, 0, 0, 0), (.getfield 18, 3, 0, 9, 0), (.getfield 64, 3, 0, 4, 7)] 35 = true := by decide +kernel
theorem O_harshestPair_s38 : zseg (zown O_harshestPair) (zcode O_harshestPair) 38 [(.iload_n 1, 1, 0, 0, 0), (.iload 4, 2, 0, 0, 0), (.iload 5, 2, 0, 0, 0)] 43 = true := by decide +kernel
theorem O_harshestPair_s49 : zseg (zown O_harshestPair) (zcode O_harshestPair) 49 [(.aload_n 0, 1, 0, 0, 0), (.iload 4, 2, 0, 0, 0), (.iload 5, 2, 0, 0, 0)] 54 = true := by decide +kernel
theorem O_harshestPair_s57 : zseg (zown O_harshestPair) (zcode O_harshestPair) 57 [(.iload_n 3, 1, 0, 0, 0)] 58 = true := by decide +kernel
theorem O_harshestPair_s61 : zseg (zown O_harshestPair) (zcode O_harshestPair) 61 [(.aload_n 0, 1, 0, 0, 0), (.iload 4, 2, 0, 0, 0), (.iload 5, 2, 0, 0, 0)] 66 = true := by decide +kernel
theorem O_harshestPair_s69 : zseg (zown O_harshestPair) (zcode O_harshestPair) 69 [(.istore_n 3, 1, 0, 0, 0), (.bipush 10, 2, 10, 0, 0), (.iload 4, 2, 0, 0, 0), (.imul, 1, 0, 0, 0), (.iload 5, 2, 0, 0, 0), (.iadd, 1, 0, 0, 0), (.istore_n 2, 1, 0, 0, 0), (.iinc 5 1, 3, 1, 0, 0), (.goto (-56), 3, 0, 0, 0)] 26 = true := by decide +kernel
theorem O_harshestPair_s79 : zseg (zown O_harshestPair) (zcode O_harshestPair) 79 [(.iinc 5 1, 3, 1, 0, 0), (.goto (-56), 3, 0, 0, 0)] 26 = true := by decide +kernel
theorem O_harshestPair_s85 : zseg (zown O_harshestPair) (zcode O_harshestPair) 85 [(.iinc 4 1, 3, 1, 0, 0), (.goto (-80), 3, 0, 0, 0)] 8 = true := by decide +kernel
theorem O_harshestPair_s91 : zseg (zown O_harshestPair) (zcode O_harshestPair) 91 [(.iload_n 2, 1, 0, 0, 0)] 92 = true := by decide +kernel
theorem O_harshestPair_d17 : decode (zcode O_harshestPair) 17 = .ok (.if_icmp .ge 74, 3) := by decide +kernel
theorem O_harshestPair_d35 : decode (zcode O_harshestPair) 35 = .ok (.if_icmp .ge 50, 3) := by decide +kernel
theorem O_harshestPair_d43 : decode (zcode O_harshestPair) 43 = .ok (.invokestatic 67, 3) := by decide +kernel
theorem O_harshestPair_d46 : decode (zcode O_harshestPair) 46 = .ok (.ifCond .eq 33, 3) := by decide +kernel
theorem O_harshestPair_d54 : decode (zcode O_harshestPair) 54 = .ok (.invokevirtual 71, 3) := by decide +kernel
theorem O_harshestPair_d58 : decode (zcode O_harshestPair) 58 = .ok (.if_icmp .le 21, 3) := by decide +kernel
theorem O_harshestPair_d66 : decode (zcode O_harshestPair) 66 = .ok (.invokevirtual 71, 3) := by decide +kernel
theorem O_harshestPair_d92 : decode (zcode O_harshestPair) 92 = .ok (.ireturn, 1) := by decide +kernel
theorem O_isPairOf_s0 : zseg (zown O_isPairOf) (zcode O_isPairOf) 0 [(.iload_n 0, 1, 0, 0, 0), (.iload_n 1, 1, 0, 0, 0), (.ishr, 1, 0, 0, 0), (.iconst 1, 1, 1, 0, 0), (.iand, 1, 0, 0, 0), (.iconst 1, 1, 1, 0, 0)] 6 = true := by decide +kernel
theorem O_isPairOf_s9 : zseg (zown O_isPairOf) (zcode O_isPairOf) 9 [(.iload_n 0, 1, 0, 0, 0), (.iload_n 2, 1, 0, 0, 0), (.ishr, 1, 0, 0, 0), (.iconst 1, 1, 1, 0, 0), (.iand, 1, 0, 0, 0), (.iconst 1, 1, 1, 0, 0)] 15 = true := by decide +kernel
theorem O_isPairOf_s18 : zseg (zown O_isPairOf) (zcode O_isPairOf) 18 [(.iconst 1, 1, 1, 0, 0), (.goto 4, 3, 0, 0, 0)] 23 = true := by decide +kernel
theorem O_isPairOf_s22 : zseg (zown O_isPairOf) (zcode O_isPairOf) 22 [(.iconst 0, 1, 0, 0, 0)] 23 = true := by decide +kernel
theorem O_isPairOf_d6 : decode (zcode O_isPairOf) 6 = .ok (.if_icmp .ne 16, 3) := by decide +kernel
theorem O_isPairOf_d15 : decode (zcode O_isPairOf) 15 = .ok (.if_icmp .ne 7, 3) := by decide +kernel
theorem O_isPairOf_d23 : decode (zcode O_isPairOf) 23 = .ok (.ireturn, 1) := by decide +kernel
theorem O_firstPureDay_s0 : zseg (zown O_firstPureDay) (zcode O_firstPureDay) 0 [(.iload_n 2, 1, 0, 0, 0), (.istore 4, 2, 0, 0, 0)] 3 = true := by decide +kernel
theorem O_firstPureDay_s3 : zseg (zown O_firstPureDay) (zcode O_firstPureDay) 3 [(.iload 4, 2, 0, 0, 0), (.sipush 998, 3, 998, 0, 0)] 8 = true := by decide +kernel
theorem O_firstPureDay_s11 : zseg (zown O_firstPureDay) (zcode O_firstPureDay) 11 [(.aload_n 0, 1, 0, 0, 0), (.getfield 18, 3, 0, 9, 0), (.iload_n 1, 1, 0, 0, 0), (.iload 4, 2, 0, 0, 0), (.iload_n 3, 1, 0, 0, 0)] 19 = true := by decide +kernel
theorem O_firstPureDay_s25 : zseg (zown O_firstPureDay) (zcode O_firstPureDay) 25 [(.iload 4, 2, 0, 0, 0)] 27 = true := by decide +kernel
theorem O_firstPureDay_s28 : zseg (zown O_firstPureDay) (zcode O_firstPureDay) 28 [(.iinc 4 1, 3, 1, 0, 0), (.goto (-28), 3, 0, 0, 0)] 3 = true := by decide +kernel
theorem O_firstPureDay_s34 : zseg (zown O_firstPureDay) (zcode O_firstPureDay) 34 [(.bipush (-2), 2, (-2), 0, 0)] 36 = true := by decide +kernel
theorem O_firstPureDay_d8 : decode (zcode O_firstPureDay) 8 = .ok (.if_icmp .gt 26, 3) := by decide +kernel
theorem O_firstPureDay_d19 : decode (zcode O_firstPureDay) 19 = .ok (.invokevirtual 74, 3) := by decide +kernel
theorem O_firstPureDay_d22 : decode (zcode O_firstPureDay) 22 = .ok (.ifCond .ne 6, 3) := by decide +kernel
theorem O_firstPureDay_d27 : decode (zcode O_firstPureDay) 27 = .ok (.ireturn, 1) := by decide +kernel
theorem O_firstPureDay_d36 : decode (zcode O_firstPureDay) 36 = .ok (.ireturn, 1) := by decide +kernel
theorem O_daysOff_s0 : zseg (zown O_daysOff) (zcode O_daysOff) 0 [(.iload_n 2, 1, 0, 0, 0), (.iload 4, 2, 0, 0, 0), (.iadd, 1, 0, 0, 0), (.iconst 1, 1, 1, 0, 0), (.isub, 1, 0, 0, 0), (.sipush 998, 3, 998, 0, 0)] 9 = true := by decide +kernel
theorem O_daysOff_s12 : zseg (zown O_daysOff) (zcode O_daysOff) 12 [(.istore 5, 2, 0, 0, 0), (.iconst 0, 1, 0, 0, 0), (.istore 6, 2, 0, 0, 0), (.iload_n 2, 1, 0, 0, 0), (.istore 7, 2, 0, 0, 0)] 20 = true := by decide +kernel
theorem O_daysOff_s20 : zseg (zown O_daysOff) (zcode O_daysOff) 20 [(.iload 7, 2, 0, 0, 0), (.iload 5, 2, 0, 0, 0)] 24 = true := by decide +kernel
theorem O_daysOff_s27 : zseg (zown O_daysOff) (zcode O_daysOff) 27 [(.iload 6, 2, 0, 0, 0), (.aload_n 0, 1, 0, 0, 0), (.getfield 18, 3, 0, 9, 0), (.iload_n 1, 1, 0, 0, 0), (.iload 7, 2, 0, 0, 0), (.iload_n 3, 1, 0, 0, 0)] 37 = true := by decide +kernel
theorem O_daysOff_s43 : zseg (zown O_daysOff) (zcode O_daysOff) 43 [(.iconst 1, 1, 1, 0, 0), (.goto 4, 3, 0, 0, 0)] 48 = true := by decide +kernel
theorem O_daysOff_s47 : zseg (zown O_daysOff) (zcode O_daysOff) 47 [(.iconst 0, 1, 0, 0, 0)] 48 = true := by decide +kernel
theorem O_daysOff_s51 : zseg (zown O_daysOff) (zcode O_daysOff) 51 [(.iadd, 1, 0, 0, 0), (.istore 6, 2, 0, 0, 0), (.iinc 7 1, 3, 1, 0, 0), (.goto (-37), 3, 0, 0, 0)] 20 = true := by decide +kernel
theorem O_daysOff_s60 : zseg (zown O_daysOff) (zcode O_daysOff) 60 [(.iload 6, 2, 0, 0, 0)] 62 = true := by decide +kernel
theorem O_daysOff_d9 : decode (zcode O_daysOff) 9 = .ok (.invokestatic 60, 3) := by decide +kernel
theorem O_daysOff_d24 : decode (zcode O_daysOff) 24 = .ok (.if_icmp .gt 36, 3) := by decide +kernel
theorem O_daysOff_d37 : decode (zcode O_daysOff) 37 = .ok (.invokevirtual 74, 3) := by decide +kernel
theorem O_daysOff_d40 : decode (zcode O_daysOff) 40 = .ok (.ifCond .eq 7, 3) := by decide +kernel
theorem O_daysOff_d48 : decode (zcode O_daysOff) 48 = .ok (.invokestatic 40, 3) := by decide +kernel
theorem O_daysOff_d62 : decode (zcode O_daysOff) 62 = .ok (.ireturn, 1) := by decide +kernel
theorem O_faultOf_s0 : zseg (zown O_faultOf) (zcode O_faultOf) 0 [(.iconst 0, 1, 0, 0, 0), (.istore 4, 2, 0, 0, 0), (.iconst 0, 1, 0, 0, 0), (.istore 5, 2, 0, 0, 0)] 6 = true := by decide +kernel
theorem O_faultOf_s6 : zseg (zown O_faultOf) (zcode O_faultOf) 6 [(.iload 5, 2, 0, 0, 0), (.aload_n 0, 1, 0, 0, 0), (.getfield 18, 3, 0, 9, 0), (.getfield 32, 3, 0, 4, 8)] 15 = true := by decide +kernel
theorem O_faultOf_s18 : zseg (zown O_faultOf) (zcode O_faultOf) 18 [(.aload_n 0, 1, 0, 0, 0), (.getfield 18, 3, 0, 9, 0), (.getfield 77, 3, 0, 4, 4), (.iload 5, 2, 0, 0, 0), (.iaload, 1, 0, 0, 0), (.iload_n 1, 1, 0, 0, 0)] 29 = true := by decide +kernel
theorem O_faultOf_s32 : zseg (zown O_faultOf) (zcode O_faultOf) 32 [(.iload 4, 2, 0, 0, 0), (.iconst 1, 1, 1, 0, 0), (.iload 5, 2, 0, 0, 0), (.ishl, 1, 0, 0, 0), (.ior, 1, 0, 0, 0), (.istore 4, 2, 0, 0, 0), (.iinc 5 1, 3, 1, 0, 0), (.goto (-38), 3, 0, 0, 0)] 6 = true := by decide +kernel
theorem O_faultOf_s41 : zseg (zown O_faultOf) (zcode O_faultOf) 41 [(.iinc 5 1, 3, 1, 0, 0), (.goto (-38), 3, 0, 0, 0)] 6 = true := by decide +kernel
theorem O_faultOf_s47 : zseg (zown O_faultOf) (zcode O_faultOf) 47 [(.aload_n 0, 1, 0, 0, 0), (.getfield 18, 3, 0, 9, 0), (.aload_n 0, 1, 0, 0, 0), (.getfield 9, 3, 0, 9, 1), (.iload_n 2, 1, 0, 0, 0), (.iload_n 3, 1, 0, 0, 0), (.iload 4, 2, 0, 0, 0)] 59 = true := by decide +kernel
theorem O_faultOf_s62 : zseg (zown O_faultOf) (zcode O_faultOf) 62 [(.iconst 0, 1, 0, 0, 0), (.istore 5, 2, 0, 0, 0), (.iconst 0, 1, 0, 0, 0), (.istore 6, 2, 0, 0, 0)] 68 = true := by decide +kernel
theorem O_faultOf_s68 : zseg (zown O_faultOf) (zcode O_faultOf) 68 [(.iload 6, 2, 0, 0, 0), (.bipush 6, 2, 6, 0, 0)] 72 = true := by decide +kernel
theorem O_faultOf_s75 : zseg (zown O_faultOf) (zcode O_faultOf) 75 [(.iload 5, 2, 0, 0, 0), (.aload_n 0, 1, 0, 0, 0), (.getfield 9, 3, 0, 9, 1), (.iload 6, 2, 0, 0, 0), (.iaload, 1, 0, 0, 0)] 84 = true := by decide +kernel
theorem O_faultOf_s87 : zseg (zown O_faultOf) (zcode O_faultOf) 87 [(.iadd, 1, 0, 0, 0), (.istore 5, 2, 0, 0, 0), (.iinc 6 1, 3, 1, 0, 0), (.goto (-25), 3, 0, 0, 0)] 68 = true := by decide +kernel
theorem O_faultOf_s96 : zseg (zown O_faultOf) (zcode O_faultOf) 96 [(.iload 5, 2, 0, 0, 0)] 98 = true := by decide +kernel
theorem O_faultOf_d15 : decode (zcode O_faultOf) 15 = .ok (.if_icmp .ge 32, 3) := by decide +kernel
theorem O_faultOf_d29 : decode (zcode O_faultOf) 29 = .ok (.if_icmp .eq 12, 3) := by decide +kernel
theorem O_faultOf_d59 : decode (zcode O_faultOf) 59 = .ok (.invokevirtual 22, 3) := by decide +kernel
theorem O_faultOf_d72 : decode (zcode O_faultOf) 72 = .ok (.if_icmp .ge 24, 3) := by decide +kernel
theorem O_faultOf_d84 : decode (zcode O_faultOf) 84 = .ok (.invokestatic 48, 3) := by decide +kernel
theorem O_faultOf_d98 : decode (zcode O_faultOf) 98 = .ok (.ireturn, 1) := by decide +kernel
theorem O_mostAtFault_s0 : zseg (zown O_mostAtFault) (zcode O_mostAtFault) 0 [(.iconst 0, 1, 0, 0, 0), (.istore_n 3, 1, 0, 0, 0), (.iconst (-1), 1, (-1), 0, 0), (.istore 4, 2, 0, 0, 0), (.iconst 0, 1, 0, 0, 0), (.istore 5, 2, 0, 0, 0)] 8 = true := by decide +kernel
theorem O_mostAtFault_s8 : zseg (zown O_mostAtFault) (zcode O_mostAtFault) 8 [(.iload 5, 2, 0, 0, 0), (.bipush 6, 2, 6, 0, 0)] 12 = true := by decide +kernel
theorem O_mostAtFault_s15 : zseg (zown O_mostAtFault) (zcode O_mostAtFault) 15 [(.aload_n 0, 1, 0, 0, 0), (.iload 5, 2, 0, 0, 0), (.iload_n 1, 1, 0, 0, 0), (.iload_n 2, 1, 0, 0, 0)] 20 = true := by decide +kernel
theorem O_mostAtFault_s23 : zseg (zown O_mostAtFault) (zcode O_mostAtFault) 23 [(.istore 6, 2, 0, 0, 0), (.iload 6, 2, 0, 0, 0), (.iload 4, 2, 0, 0, 0)] 29 = true := by decide +kernel
theorem O_mostAtFault_s32 : zseg (zown O_mostAtFault) (zcode O_mostAtFault) 32 [(.iload 6, 2, 0, 0, 0), (.istore 4, 2, 0, 0, 0), (.iload 5, 2, 0, 0, 0), (.istore_n 3, 1, 0, 0, 0), (.iinc 5 1, 3, 1, 0, 0), (.goto (-34), 3, 0, 0, 0)] 8 = true := by decide +kernel
theorem O_mostAtFault_s39 : zseg (zown O_mostAtFault) (zcode O_mostAtFault) 39 [(.iinc 5 1, 3, 1, 0, 0), (.goto (-34), 3, 0, 0, 0)] 8 = true := by decide +kernel
theorem O_mostAtFault_s45 : zseg (zown O_mostAtFault) (zcode O_mostAtFault) 45 [(.iload_n 3, 1, 0, 0, 0)] 46 = true := by decide +kernel
theorem O_mostAtFault_d12 : decode (zcode O_mostAtFault) 12 = .ok (.if_icmp .ge 33, 3) := by decide +kernel
theorem O_mostAtFault_d20 : decode (zcode O_mostAtFault) 20 = .ok (.invokevirtual 80, 3) := by decide +kernel
theorem O_mostAtFault_d29 : decode (zcode O_mostAtFault) 29 = .ok (.if_icmp .le 10, 3) := by decide +kernel
theorem O_mostAtFault_d46 : decode (zcode O_mostAtFault) 46 = .ok (.ireturn, 1) := by decide +kernel
theorem O_countOff_s0 : zseg (zown O_countOff) (zcode O_countOff) 0 [(.iconst 0, 1, 0, 0, 0), (.istore_n 1, 1, 0, 0, 0), (.iconst 0, 1, 0, 0, 0), (.istore_n 2, 1, 0, 0, 0)] 4 = true := by decide +kernel
theorem O_countOff_s4 : zseg (zown O_countOff) (zcode O_countOff) 4 [(.iload_n 2, 1, 0, 0, 0), (.bipush 6, 2, 6, 0, 0)] 7 = true := by decide +kernel
theorem O_countOff_s10 : zseg (zown O_countOff) (zcode O_countOff) 10 [(.iload_n 1, 1, 0, 0, 0), (.aload_n 0, 1, 0, 0, 0), (.iload_n 2, 1, 0, 0, 0), (.iaload, 1, 0, 0, 0)] 14 = true := by decide +kernel
theorem O_countOff_s17 : zseg (zown O_countOff) (zcode O_countOff) 17 [(.iconst 1, 1, 1, 0, 0), (.goto 4, 3, 0, 0, 0)] 22 = true := by decide +kernel
theorem O_countOff_s21 : zseg (zown O_countOff) (zcode O_countOff) 21 [(.iconst 0, 1, 0, 0, 0)] 22 = true := by decide +kernel
theorem O_countOff_s25 : zseg (zown O_countOff) (zcode O_countOff) 25 [(.iadd, 1, 0, 0, 0), (.istore_n 1, 1, 0, 0, 0), (.iinc 2 1, 3, 1, 0, 0), (.goto (-26), 3, 0, 0, 0)] 4 = true := by decide +kernel
theorem O_countOff_s33 : zseg (zown O_countOff) (zcode O_countOff) 33 [(.iload_n 1, 1, 0, 0, 0)] 34 = true := by decide +kernel
theorem O_countOff_d7 : decode (zcode O_countOff) 7 = .ok (.if_icmp .ge 26, 3) := by decide +kernel
theorem O_countOff_d14 : decode (zcode O_countOff) 14 = .ok (.ifCond .eq 7, 3) := by decide +kernel
theorem O_countOff_d22 : decode (zcode O_countOff) 22 = .ok (.invokestatic 40, 3) := by decide +kernel
theorem O_countOff_d34 : decode (zcode O_countOff) 34 = .ok (.ireturn, 1) := by decide +kernel
