/-! by program (wip/whole/gen_code.py): records, stretches, decode facts -/
theorem J_bitCountI_s0 : zseg (zown J_bitCountI) (zcode J_bitCountI) 0 [(.iload_n 0, 1, 0, 0, 0), (.iload_n 0, 1, 0, 0, 0), (.iconst 1, 1, 1, 0, 0), (.iushr, 1, 0, 0, 0), (.ldc_w 265, 3, 1431655765, 0, 0), (.iand, 1, 0, 0, 0), (.isub, 1, 0, 0, 0), (.istore_n 0, 1, 0, 0, 0), (.iload_n 0, 1, 0, 0, 0), (.ldc_w 266, 3, 858993459, 0, 0), (.iand, 1, 0, 0, 0), (.iload_n 0, 1, 0, 0, 0), (.iconst 2, 1, 2, 0, 0), (.iushr, 1, 0, 0, 0), (.ldc_w 266, 3, 858993459, 0, 0), (.iand, 1, 0, 0, 0), (.iadd, 1, 0, 0, 0), (.istore_n 0, 1, 0, 0, 0), (.iload_n 0, 1, 0, 0, 0), (.iload_n 0, 1, 0, 0, 0), (.iconst 4, 1, 4, 0, 0), (.iushr, 1, 0, 0, 0), (.iadd, 1, 0, 0, 0), (.ldc_w 267, 3, 252645135, 0, 0), (.iand, 1, 0, 0, 0), (.istore_n 0, 1, 0, 0, 0), (.iload_n 0, 1, 0, 0, 0), (.iload_n 0, 1, 0, 0, 0), (.bipush 8, 2, 8, 0, 0), (.iushr, 1, 0, 0, 0), (.iadd, 1, 0, 0, 0), (.istore_n 0, 1, 0, 0, 0), (.iload_n 0, 1, 0, 0, 0), (.iload_n 0, 1, 0, 0, 0), (.bipush 16, 2, 16, 0, 0), (.iushr, 1, 0, 0, 0), (.iadd, 1, 0, 0, 0), (.istore_n 0, 1, 0, 0, 0), (.iload_n 0, 1, 0, 0, 0), (.bipush 63, 2, 63, 0, 0), (.iand, 1, 0, 0, 0)] 52 = true := by decide +kernel
theorem J_bitCountI_d52 : decode (zcode J_bitCountI) 52 = .ok (.ireturn, 1) := by decide +kernel
theorem J_lengthS_s0 : zseg (zown J_lengthS) (zcode J_lengthS) 0 [(.aload_n 0, 1, 0, 0, 0)] 1 = true := by decide +kernel
theorem J_lengthS_s4 : zseg (zown J_lengthS) (zcode J_lengthS) 4 [(.arraylength, 1, 0, 0, 0), (.aload_n 0, 1, 0, 0, 0)] 6 = true := by decide +kernel
theorem J_lengthS_s9 : zseg (zown J_lengthS) (zcode J_lengthS) 9 [(.ishr, 1, 0, 0, 0)] 10 = true := by decide +kernel
theorem J_lengthS_d1 : decode (zcode J_lengthS) 1 = .ok (.getfield 9, 3) := by decide +kernel
theorem J_lengthS_d6 : decode (zcode J_lengthS) 6 = .ok (.invokevirtual 335, 3) := by decide +kernel
theorem J_lengthS_d10 : decode (zcode J_lengthS) 10 = .ok (.ireturn, 1) := by decide +kernel
theorem J_indexOfS_s0 : zseg (zown J_indexOfS) (zcode J_indexOfS) 0 [(.aload_n 0, 1, 0, 0, 0), (.iload_n 1, 1, 0, 0, 0), (.iconst 0, 1, 0, 0, 0)] 3 = true := by decide +kernel
theorem J_indexOfS_d3 : decode (zcode J_indexOfS) 3 = .ok (.invokevirtual 633, 3) := by decide +kernel
theorem J_indexOfS_d6 : decode (zcode J_indexOfS) 6 = .ok (.ireturn, 1) := by decide +kernel
theorem J_coderS_s6 : zseg (zown J_coderS) (zcode J_coderS) 6 [(.aload_n 0, 1, 0, 0, 0)] 7 = true := by decide +kernel
theorem J_coderS_s10 : zseg (zown J_coderS) (zcode J_coderS) 10 [(.goto 4, 3, 0, 0, 0)] 14 = true := by decide +kernel
theorem J_coderS_s13 : zseg (zown J_coderS) (zcode J_coderS) 13 [(.iconst 1, 1, 1, 0, 0)] 14 = true := by decide +kernel
theorem J_coderS_d0 : decode (zcode J_coderS) 0 = .ok (.getstatic 38, 3) := by decide +kernel
theorem J_coderS_d3 : decode (zcode J_coderS) 3 = .ok (.ifCond .eq 10, 3) := by decide +kernel
theorem J_coderS_d7 : decode (zcode J_coderS) 7 = .ok (.getfield 15, 3) := by decide +kernel
theorem J_coderS_d14 : decode (zcode J_coderS) 14 = .ok (.ireturn, 1) := by decide +kernel
theorem J_isLatin1S_s6 : zseg (zown J_isLatin1S) (zcode J_isLatin1S) 6 [(.aload_n 0, 1, 0, 0, 0)] 7 = true := by decide +kernel
theorem J_isLatin1S_s13 : zseg (zown J_isLatin1S) (zcode J_isLatin1S) 13 [(.iconst 1, 1, 1, 0, 0), (.goto 4, 3, 0, 0, 0)] 18 = true := by decide +kernel
theorem J_isLatin1S_s17 : zseg (zown J_isLatin1S) (zcode J_isLatin1S) 17 [(.iconst 0, 1, 0, 0, 0)] 18 = true := by decide +kernel
theorem J_isLatin1S_d0 : decode (zcode J_isLatin1S) 0 = .ok (.getstatic 38, 3) := by decide +kernel
theorem J_isLatin1S_d3 : decode (zcode J_isLatin1S) 3 = .ok (.ifCond .eq 14, 3) := by decide +kernel
theorem J_isLatin1S_d7 : decode (zcode J_isLatin1S) 7 = .ok (.getfield 15, 3) := by decide +kernel
theorem J_isLatin1S_d10 : decode (zcode J_isLatin1S) 10 = .ok (.ifCond .ne 7, 3) := by decide +kernel
theorem J_isLatin1S_d18 : decode (zcode J_isLatin1S) 18 = .ok (.ireturn, 1) := by decide +kernel
theorem J_checkBoundsBeginEndS_s0 : zseg (zown J_checkBoundsBeginEndS) (zcode J_checkBoundsBeginEndS) 0 [(.iload_n 0, 1, 0, 0, 0), (.iload_n 1, 1, 0, 0, 0), (.iload_n 2, 1, 0, 0, 0)] 3 = true := by decide +kernel
theorem J_checkBoundsBeginEndS_s9 : zseg (zown J_checkBoundsBeginEndS) (zcode J_checkBoundsBeginEndS) 9 [(.pop, 1, 0, 0, 0)] 10 = true := by decide +kernel
theorem J_checkBoundsBeginEndS_d3 : decode (zcode J_checkBoundsBeginEndS) 3 = .ok (.getstatic 1053, 3) := by decide +kernel
theorem J_checkBoundsBeginEndS_d6 : decode (zcode J_checkBoundsBeginEndS) 6 = .ok (.invokestatic 1062, 3) := by decide +kernel
theorem J_checkBoundsBeginEndS_d10 : decode (zcode J_checkBoundsBeginEndS) 10 = .ok (.return_, 1) := by decide +kernel
theorem J_canEncodeL_s0 : zseg (zown J_canEncodeL) (zcode J_canEncodeL) 0 [(.iload_n 0, 1, 0, 0, 0)] 1 = true := by decide +kernel
theorem J_canEncodeL_s4 : zseg (zown J_canEncodeL) (zcode J_canEncodeL) 4 [(.iload_n 0, 1, 0, 0, 0), (.sipush 255, 3, 255, 0, 0)] 8 = true := by decide +kernel
theorem J_canEncodeL_s11 : zseg (zown J_canEncodeL) (zcode J_canEncodeL) 11 [(.iconst 1, 1, 1, 0, 0), (.goto 4, 3, 0, 0, 0)] 16 = true := by decide +kernel
theorem J_canEncodeL_s15 : zseg (zown J_canEncodeL) (zcode J_canEncodeL) 15 [(.iconst 0, 1, 0, 0, 0)] 16 = true := by decide +kernel
theorem J_canEncodeL_d1 : decode (zcode J_canEncodeL) 1 = .ok (.ifCond .lt 14, 3) := by decide +kernel
theorem J_canEncodeL_d8 : decode (zcode J_canEncodeL) 8 = .ok (.if_icmp .gt 7, 3) := by decide +kernel
theorem J_canEncodeL_d16 : decode (zcode J_canEncodeL) 16 = .ok (.ireturn, 1) := by decide +kernel
theorem J_indexOfL_s0 : zseg (zown J_indexOfL) (zcode J_indexOfL) 0 [(.iload_n 1, 1, 0, 0, 0)] 1 = true := by decide +kernel
theorem J_indexOfL_s7 : zseg (zown J_indexOfL) (zcode J_indexOfL) 7 [(.iconst (-1), 1, (-1), 0, 0)] 8 = true := by decide +kernel
theorem J_indexOfL_s9 : zseg (zown J_indexOfL) (zcode J_indexOfL) 9 [(.iload_n 2, 1, 0, 0, 0), (.iconst 0, 1, 0, 0, 0)] 11 = true := by decide +kernel
theorem J_indexOfL_s14 : zseg (zown J_indexOfL) (zcode J_indexOfL) 14 [(.istore_n 2, 1, 0, 0, 0), (.iload_n 3, 1, 0, 0, 0), (.aload_n 0, 1, 0, 0, 0), (.arraylength, 1, 0, 0, 0)] 18 = true := by decide +kernel
theorem J_indexOfL_s21 : zseg (zown J_indexOfL) (zcode J_indexOfL) 21 [(.istore_n 3, 1, 0, 0, 0), (.iload_n 2, 1, 0, 0, 0), (.iload_n 3, 1, 0, 0, 0)] 24 = true := by decide +kernel
theorem J_indexOfL_s27 : zseg (zown J_indexOfL) (zcode J_indexOfL) 27 [(.iconst (-1), 1, (-1), 0, 0)] 28 = true := by decide +kernel
theorem J_indexOfL_s29 : zseg (zown J_indexOfL) (zcode J_indexOfL) 29 [(.aload_n 0, 1, 0, 0, 0), (.iload_n 1, 1, 0, 0, 0), (.iload_n 2, 1, 0, 0, 0), (.iload_n 3, 1, 0, 0, 0)] 33 = true := by decide +kernel
theorem J_indexOfL_d1 : decode (zcode J_indexOfL) 1 = .ok (.invokestatic 88, 3) := by decide +kernel
theorem J_indexOfL_d4 : decode (zcode J_indexOfL) 4 = .ok (.ifCond .ne 5, 3) := by decide +kernel
theorem J_indexOfL_d8 : decode (zcode J_indexOfL) 8 = .ok (.ireturn, 1) := by decide +kernel
theorem J_indexOfL_d11 : decode (zcode J_indexOfL) 11 = .ok (.invokestatic 92, 3) := by decide +kernel
theorem J_indexOfL_d18 : decode (zcode J_indexOfL) 18 = .ok (.invokestatic 38, 3) := by decide +kernel
theorem J_indexOfL_d24 : decode (zcode J_indexOfL) 24 = .ok (.if_icmp .lt 5, 3) := by decide +kernel
theorem J_indexOfL_d28 : decode (zcode J_indexOfL) 28 = .ok (.ireturn, 1) := by decide +kernel
theorem J_indexOfL_d33 : decode (zcode J_indexOfL) 33 = .ok (.invokestatic 95, 3) := by decide +kernel
theorem J_indexOfL_d36 : decode (zcode J_indexOfL) 36 = .ok (.ireturn, 1) := by decide +kernel
theorem J_indexOfCharL_s0 : zseg (zown J_indexOfCharL) (zcode J_indexOfCharL) 0 [(.iload_n 1, 1, 0, 0, 0), (.i2b, 1, 0, 0, 0), (.istore 4, 2, 0, 0, 0), (.iload_n 2, 1, 0, 0, 0), (.istore 5, 2, 0, 0, 0)] 7 = true := by decide +kernel
theorem J_indexOfCharL_s7 : zseg (zown J_indexOfCharL) (zcode J_indexOfCharL) 7 [(.iload 5, 2, 0, 0, 0), (.iload_n 3, 1, 0, 0, 0)] 10 = true := by decide +kernel
theorem J_indexOfCharL_s13 : zseg (zown J_indexOfCharL) (zcode J_indexOfCharL) 13 [(.aload_n 0, 1, 0, 0, 0), (.iload 5, 2, 0, 0, 0), (.baload, 1, 0, 0, 0), (.iload 4, 2, 0, 0, 0)] 19 = true := by decide +kernel
theorem J_indexOfCharL_s22 : zseg (zown J_indexOfCharL) (zcode J_indexOfCharL) 22 [(.iload 5, 2, 0, 0, 0)] 24 = true := by decide +kernel
theorem J_indexOfCharL_s25 : zseg (zown J_indexOfCharL) (zcode J_indexOfCharL) 25 [(.iinc 5 1, 3, 1, 0, 0), (.goto (-21), 3, 0, 0, 0)] 7 = true := by decide +kernel
theorem J_indexOfCharL_s31 : zseg (zown J_indexOfCharL) (zcode J_indexOfCharL) 31 [(.iconst (-1), 1, (-1), 0, 0)] 32 = true := by decide +kernel
theorem J_indexOfCharL_d10 : decode (zcode J_indexOfCharL) 10 = .ok (.if_icmp .ge 21, 3) := by decide +kernel
theorem J_indexOfCharL_d19 : decode (zcode J_indexOfCharL) 19 = .ok (.if_icmp .ne 6, 3) := by decide +kernel
theorem J_indexOfCharL_d24 : decode (zcode J_indexOfCharL) 24 = .ok (.ireturn, 1) := by decide +kernel
theorem J_indexOfCharL_d32 : decode (zcode J_indexOfCharL) 32 = .ok (.ireturn, 1) := by decide +kernel
theorem J_fillAJ_s0 : zseg (zown J_fillAJ) (zcode J_fillAJ) 0 [(.iconst 0, 1, 0, 0, 0), (.istore_n 3, 1, 0, 0, 0), (.aload_n 0, 1, 0, 0, 0), (.arraylength, 1, 0, 0, 0), (.istore 4, 2, 0, 0, 0)] 6 = true := by decide +kernel
theorem J_fillAJ_s6 : zseg (zown J_fillAJ) (zcode J_fillAJ) 6 [(.iload_n 3, 1, 0, 0, 0), (.iload 4, 2, 0, 0, 0)] 9 = true := by decide +kernel
theorem J_fillAJ_s12 : zseg (zown J_fillAJ) (zcode J_fillAJ) 12 [(.aload_n 0, 1, 0, 0, 0), (.iload_n 3, 1, 0, 0, 0), (.lload_n 1, 1, 0, 0, 0), (.lastore, 1, 0, 0, 0), (.iinc 3 1, 3, 1, 0, 0), (.goto (-13), 3, 0, 0, 0)] 6 = true := by decide +kernel
theorem J_fillAJ_d9 : decode (zcode J_fillAJ) 9 = .ok (.if_icmp .ge 13, 3) := by decide +kernel
theorem J_fillAJ_d22 : decode (zcode J_fillAJ) 22 = .ok (.return_, 1) := by decide +kernel
theorem J_fillAI_s0 : zseg (zown J_fillAI) (zcode J_fillAI) 0 [(.iconst 0, 1, 0, 0, 0), (.istore_n 2, 1, 0, 0, 0), (.aload_n 0, 1, 0, 0, 0), (.arraylength, 1, 0, 0, 0), (.istore_n 3, 1, 0, 0, 0)] 5 = true := by decide +kernel
theorem J_fillAI_s5 : zseg (zown J_fillAI) (zcode J_fillAI) 5 [(.iload_n 2, 1, 0, 0, 0), (.iload_n 3, 1, 0, 0, 0)] 7 = true := by decide +kernel
theorem J_fillAI_s10 : zseg (zown J_fillAI) (zcode J_fillAI) 10 [(.aload_n 0, 1, 0, 0, 0), (.iload_n 2, 1, 0, 0, 0), (.iload_n 1, 1, 0, 0, 0), (.iastore, 1, 0, 0, 0), (.iinc 2 1, 3, 1, 0, 0), (.goto (-12), 3, 0, 0, 0)] 5 = true := by decide +kernel
theorem J_fillAI_d7 : decode (zcode J_fillAI) 7 = .ok (.if_icmp .ge 13, 3) := by decide +kernel
theorem J_fillAI_d20 : decode (zcode J_fillAI) 20 = .ok (.return_, 1) := by decide +kernel
