/-! the JDK's own methods on text constants: length, charAt, indexOf -/
abbrev jb_cod : ByteArray := prog_18_method_152_code
def jy_cod : MethodName := ⟨"java/lang/String", "coder", "()B"⟩
theorem jd_cod_0 : decode jb_cod 0 = .ok (.getstatic 38, 3) := by decide +kernel
theorem jd_cod_3 : decode jb_cod 3 = .ok (.ifCond .eq 10, 3) := by decide +kernel
theorem jd_cod_6 : decode jb_cod 6 = .ok (.aload_n 0, 1) := by decide +kernel
theorem jd_cod_7 : decode jb_cod 7 = .ok (.getfield 15, 3) := by decide +kernel
theorem jd_cod_10 : decode jb_cod 10 = .ok (.goto 4, 3) := by decide +kernel
theorem jd_cod_14 : decode jb_cod 14 = .ok (.ireturn, 1) := by decide +kernel
abbrev jb_isl : ByteArray := prog_18_method_154_code
def jy_isl : MethodName := ⟨"java/lang/String", "isLatin1", "()Z"⟩
theorem jd_isl_0 : decode jb_isl 0 = .ok (.getstatic 38, 3) := by decide +kernel
theorem jd_isl_3 : decode jb_isl 3 = .ok (.ifCond .eq 14, 3) := by decide +kernel
theorem jd_isl_6 : decode jb_isl 6 = .ok (.aload_n 0, 1) := by decide +kernel
theorem jd_isl_7 : decode jb_isl 7 = .ok (.getfield 15, 3) := by decide +kernel
theorem jd_isl_10 : decode jb_isl 10 = .ok (.ifCond .ne 7, 3) := by decide +kernel
theorem jd_isl_13 : decode jb_isl 13 = .ok (.iconst 1, 1) := by decide +kernel
theorem jd_isl_14 : decode jb_isl 14 = .ok (.goto 4, 3) := by decide +kernel
theorem jd_isl_18 : decode jb_isl 18 = .ok (.ireturn, 1) := by decide +kernel
abbrev jb_len : ByteArray := prog_18_method_54_code
def jy_len : MethodName := ⟨"java/lang/String", "length", "()I"⟩
theorem jd_len_0 : decode jb_len 0 = .ok (.aload_n 0, 1) := by decide +kernel
theorem jd_len_1 : decode jb_len 1 = .ok (.getfield 9, 3) := by decide +kernel
theorem jd_len_4 : decode jb_len 4 = .ok (.arraylength, 1) := by decide +kernel
theorem jd_len_5 : decode jb_len 5 = .ok (.aload_n 0, 1) := by decide +kernel
theorem jd_len_6 : decode jb_len 6 = .ok (.invokevirtual 335, 3) := by decide +kernel
theorem jd_len_9 : decode jb_len 9 = .ok (.ishr, 1) := by decide +kernel
theorem jd_len_10 : decode jb_len 10 = .ok (.ireturn, 1) := by decide +kernel
abbrev jb_cki : ByteArray := prog_18_method_155_code
def jy_cki : MethodName := ⟨"java/lang/String", "checkIndex", "(II)V"⟩
theorem jd_cki_0 : decode jb_cki 0 = .ok (.iload_n 0, 1) := by decide +kernel
theorem jd_cki_1 : decode jb_cki 1 = .ok (.iload_n 1, 1) := by decide +kernel
theorem jd_cki_2 : decode jb_cki 2 = .ok (.getstatic 1053, 3) := by decide +kernel
theorem jd_cki_5 : decode jb_cki 5 = .ok (.invokestatic 1059, 3) := by decide +kernel
theorem jd_cki_8 : decode jb_cki 8 = .ok (.pop, 1) := by decide +kernel
theorem jd_cki_9 : decode jb_cki 9 = .ok (.return_, 1) := by decide +kernel
abbrev jb_pck : ByteArray := prog_22_method_11_code
def jy_pck : MethodName := ⟨"jdk/internal/util/Preconditions", "checkIndex", "(IILjava/util/function/BiFunction;)I"⟩
theorem jd_pck_0 : decode jb_pck 0 = .ok (.iload_n 0, 1) := by decide +kernel
theorem jd_pck_1 : decode jb_pck 1 = .ok (.ifCond .lt 8, 3) := by decide +kernel
theorem jd_pck_4 : decode jb_pck 4 = .ok (.iload_n 0, 1) := by decide +kernel
theorem jd_pck_5 : decode jb_pck 5 = .ok (.iload_n 1, 1) := by decide +kernel
theorem jd_pck_6 : decode jb_pck 6 = .ok (.if_icmp .lt 10, 3) := by decide +kernel
theorem jd_pck_16 : decode jb_pck 16 = .ok (.iload_n 0, 1) := by decide +kernel
theorem jd_pck_17 : decode jb_pck 17 = .ok (.ireturn, 1) := by decide +kernel
abbrev jb_lch : ByteArray := prog_19_method_2_code
def jy_lch : MethodName := ⟨"java/lang/StringLatin1", "charAt", "([BI)C"⟩
theorem jd_lch_0 : decode jb_lch 0 = .ok (.iload_n 1, 1) := by decide +kernel
theorem jd_lch_1 : decode jb_lch 1 = .ok (.aload_n 0, 1) := by decide +kernel
theorem jd_lch_2 : decode jb_lch 2 = .ok (.arraylength, 1) := by decide +kernel
theorem jd_lch_3 : decode jb_lch 3 = .ok (.invokestatic 9, 3) := by decide +kernel
theorem jd_lch_6 : decode jb_lch 6 = .ok (.aload_n 0, 1) := by decide +kernel
theorem jd_lch_7 : decode jb_lch 7 = .ok (.iload_n 1, 1) := by decide +kernel
theorem jd_lch_8 : decode jb_lch 8 = .ok (.baload, 1) := by decide +kernel
theorem jd_lch_9 : decode jb_lch 9 = .ok (.sipush 255, 3) := by decide +kernel
theorem jd_lch_12 : decode jb_lch 12 = .ok (.iand, 1) := by decide +kernel
theorem jd_lch_13 : decode jb_lch 13 = .ok (.i2c, 1) := by decide +kernel
theorem jd_lch_14 : decode jb_lch 14 = .ok (.ireturn, 1) := by decide +kernel
abbrev jb_chr : ByteArray := prog_18_method_56_code
def jy_chr : MethodName := ⟨"java/lang/String", "charAt", "(I)C"⟩
theorem jd_chr_0 : decode jb_chr 0 = .ok (.aload_n 0, 1) := by decide +kernel
theorem jd_chr_1 : decode jb_chr 1 = .ok (.invokevirtual 492, 3) := by decide +kernel
theorem jd_chr_4 : decode jb_chr 4 = .ok (.ifCond .eq 12, 3) := by decide +kernel
theorem jd_chr_7 : decode jb_chr 7 = .ok (.aload_n 0, 1) := by decide +kernel
theorem jd_chr_8 : decode jb_chr 8 = .ok (.getfield 9, 3) := by decide +kernel
theorem jd_chr_11 : decode jb_chr 11 = .ok (.iload_n 1, 1) := by decide +kernel
theorem jd_chr_12 : decode jb_chr 12 = .ok (.invokestatic 495, 3) := by decide +kernel
theorem jd_chr_15 : decode jb_chr 15 = .ok (.ireturn, 1) := by decide +kernel
abbrev jb_can : ByteArray := prog_19_method_4_code
def jy_can : MethodName := ⟨"java/lang/StringLatin1", "canEncode", "(I)Z"⟩
theorem jd_can_0 : decode jb_can 0 = .ok (.iload_n 0, 1) := by decide +kernel
theorem jd_can_1 : decode jb_can 1 = .ok (.ifCond .lt 14, 3) := by decide +kernel
theorem jd_can_4 : decode jb_can 4 = .ok (.iload_n 0, 1) := by decide +kernel
theorem jd_can_5 : decode jb_can 5 = .ok (.sipush 255, 3) := by decide +kernel
theorem jd_can_8 : decode jb_can 8 = .ok (.if_icmp .gt 7, 3) := by decide +kernel
theorem jd_can_11 : decode jb_can 11 = .ok (.iconst 1, 1) := by decide +kernel
theorem jd_can_12 : decode jb_can 12 = .ok (.goto 4, 3) := by decide +kernel
theorem jd_can_15 : decode jb_can 15 = .ok (.iconst 0, 1) := by decide +kernel
theorem jd_can_16 : decode jb_can 16 = .ok (.ireturn, 1) := by decide +kernel
abbrev jb_ixc : ByteArray := prog_19_method_23_code
def jy_ixc : MethodName := ⟨"java/lang/StringLatin1", "indexOfChar", "([BIII)I"⟩
theorem jd_ixc_0 : decode jb_ixc 0 = .ok (.iload_n 1, 1) := by decide +kernel
theorem jd_ixc_1 : decode jb_ixc 1 = .ok (.i2b, 1) := by decide +kernel
theorem jd_ixc_2 : decode jb_ixc 2 = .ok (.istore 4, 2) := by decide +kernel
theorem jd_ixc_4 : decode jb_ixc 4 = .ok (.iload_n 2, 1) := by decide +kernel
theorem jd_ixc_5 : decode jb_ixc 5 = .ok (.istore 5, 2) := by decide +kernel
theorem jd_ixc_7 : decode jb_ixc 7 = .ok (.iload 5, 2) := by decide +kernel
theorem jd_ixc_9 : decode jb_ixc 9 = .ok (.iload_n 3, 1) := by decide +kernel
theorem jd_ixc_10 : decode jb_ixc 10 = .ok (.if_icmp .ge 21, 3) := by decide +kernel
theorem jd_ixc_13 : decode jb_ixc 13 = .ok (.aload_n 0, 1) := by decide +kernel
theorem jd_ixc_14 : decode jb_ixc 14 = .ok (.iload 5, 2) := by decide +kernel
theorem jd_ixc_16 : decode jb_ixc 16 = .ok (.baload, 1) := by decide +kernel
theorem jd_ixc_17 : decode jb_ixc 17 = .ok (.iload 4, 2) := by decide +kernel
theorem jd_ixc_19 : decode jb_ixc 19 = .ok (.if_icmp .ne 6, 3) := by decide +kernel
theorem jd_ixc_22 : decode jb_ixc 22 = .ok (.iload 5, 2) := by decide +kernel
theorem jd_ixc_24 : decode jb_ixc 24 = .ok (.ireturn, 1) := by decide +kernel
theorem jd_ixc_25 : decode jb_ixc 25 = .ok (.iinc 5 1, 3) := by decide +kernel
theorem jd_ixc_28 : decode jb_ixc 28 = .ok (.goto (-21), 3) := by decide +kernel
theorem jd_ixc_31 : decode jb_ixc 31 = .ok (.iconst (-1), 1) := by decide +kernel
theorem jd_ixc_32 : decode jb_ixc 32 = .ok (.ireturn, 1) := by decide +kernel
abbrev jb_ixl : ByteArray := prog_19_method_22_code
def jy_ixl : MethodName := ⟨"java/lang/StringLatin1", "indexOf", "([BIII)I"⟩
theorem jd_ixl_0 : decode jb_ixl 0 = .ok (.iload_n 1, 1) := by decide +kernel
theorem jd_ixl_1 : decode jb_ixl 1 = .ok (.invokestatic 88, 3) := by decide +kernel
theorem jd_ixl_4 : decode jb_ixl 4 = .ok (.ifCond .ne 5, 3) := by decide +kernel
theorem jd_ixl_7 : decode jb_ixl 7 = .ok (.iconst (-1), 1) := by decide +kernel
theorem jd_ixl_8 : decode jb_ixl 8 = .ok (.ireturn, 1) := by decide +kernel
theorem jd_ixl_9 : decode jb_ixl 9 = .ok (.iload_n 2, 1) := by decide +kernel
theorem jd_ixl_10 : decode jb_ixl 10 = .ok (.iconst 0, 1) := by decide +kernel
theorem jd_ixl_11 : decode jb_ixl 11 = .ok (.invokestatic 92, 3) := by decide +kernel
theorem jd_ixl_14 : decode jb_ixl 14 = .ok (.istore_n 2, 1) := by decide +kernel
theorem jd_ixl_15 : decode jb_ixl 15 = .ok (.iload_n 3, 1) := by decide +kernel
theorem jd_ixl_16 : decode jb_ixl 16 = .ok (.aload_n 0, 1) := by decide +kernel
theorem jd_ixl_17 : decode jb_ixl 17 = .ok (.arraylength, 1) := by decide +kernel
theorem jd_ixl_18 : decode jb_ixl 18 = .ok (.invokestatic 38, 3) := by decide +kernel
theorem jd_ixl_21 : decode jb_ixl 21 = .ok (.istore_n 3, 1) := by decide +kernel
theorem jd_ixl_22 : decode jb_ixl 22 = .ok (.iload_n 2, 1) := by decide +kernel
theorem jd_ixl_23 : decode jb_ixl 23 = .ok (.iload_n 3, 1) := by decide +kernel
theorem jd_ixl_24 : decode jb_ixl 24 = .ok (.if_icmp .lt 5, 3) := by decide +kernel
theorem jd_ixl_29 : decode jb_ixl 29 = .ok (.aload_n 0, 1) := by decide +kernel
theorem jd_ixl_30 : decode jb_ixl 30 = .ok (.iload_n 1, 1) := by decide +kernel
theorem jd_ixl_31 : decode jb_ixl 31 = .ok (.iload_n 2, 1) := by decide +kernel
theorem jd_ixl_32 : decode jb_ixl 32 = .ok (.iload_n 3, 1) := by decide +kernel
theorem jd_ixl_33 : decode jb_ixl 33 = .ok (.invokestatic 95, 3) := by decide +kernel
theorem jd_ixl_36 : decode jb_ixl 36 = .ok (.ireturn, 1) := by decide +kernel
abbrev jb_ix2 : ByteArray := prog_18_method_80_code
def jy_ix2 : MethodName := ⟨"java/lang/String", "indexOf", "(II)I"⟩
theorem jd_ix2_0 : decode jb_ix2 0 = .ok (.aload_n 0, 1) := by decide +kernel
theorem jd_ix2_1 : decode jb_ix2 1 = .ok (.invokevirtual 492, 3) := by decide +kernel
theorem jd_ix2_4 : decode jb_ix2 4 = .ok (.ifCond .eq 19, 3) := by decide +kernel
theorem jd_ix2_7 : decode jb_ix2 7 = .ok (.aload_n 0, 1) := by decide +kernel
theorem jd_ix2_8 : decode jb_ix2 8 = .ok (.getfield 9, 3) := by decide +kernel
theorem jd_ix2_11 : decode jb_ix2 11 = .ok (.iload_n 1, 1) := by decide +kernel
theorem jd_ix2_12 : decode jb_ix2 12 = .ok (.iload_n 2, 1) := by decide +kernel
theorem jd_ix2_13 : decode jb_ix2 13 = .ok (.aload_n 0, 1) := by decide +kernel
theorem jd_ix2_14 : decode jb_ix2 14 = .ok (.invokevirtual 505, 3) := by decide +kernel
theorem jd_ix2_17 : decode jb_ix2 17 = .ok (.invokestatic 637, 3) := by decide +kernel
theorem jd_ix2_20 : decode jb_ix2 20 = .ok (.goto 16, 3) := by decide +kernel
theorem jd_ix2_36 : decode jb_ix2 36 = .ok (.ireturn, 1) := by decide +kernel
abbrev jb_ix1 : ByteArray := prog_18_method_79_code
def jy_ix1 : MethodName := ⟨"java/lang/String", "indexOf", "(I)I"⟩
theorem jd_ix1_0 : decode jb_ix1 0 = .ok (.aload_n 0, 1) := by decide +kernel
theorem jd_ix1_1 : decode jb_ix1 1 = .ok (.iload_n 1, 1) := by decide +kernel
theorem jd_ix1_2 : decode jb_ix1 2 = .ok (.iconst 0, 1) := by decide +kernel
theorem jd_ix1_3 : decode jb_ix1 3 = .ok (.invokevirtual 633, 3) := by decide +kernel
theorem jd_ix1_6 : decode jb_ix1 6 = .ok (.ireturn, 1) := by decide +kernel
theorem jw_cod_c : Jvm.Cond.code jy_cod jb_cod 1 (some .byte) ∈ mz_TB := mz_wd (i := 3003) (by decide +kernel) rfl
theorem jw_isl_c : Jvm.Cond.code jy_isl jb_isl 1 (some .boolean) ∈ mz_TB := mz_wd (i := 3017) (by decide +kernel) rfl
theorem jw_len_c : Jvm.Cond.code jy_len jb_len 1 (some .int) ∈ mz_TB := mz_wd (i := 2239) (by decide +kernel) rfl
theorem jw_cki_c : Jvm.Cond.code jy_cki jb_cki 2 none ∈ mz_TB := mz_wd (i := 3023) (by decide +kernel) rfl
theorem jw_pck_c : Jvm.Cond.code jy_pck jb_pck 3 (some .int) ∈ mz_TB := mz_wd (i := 3028) (by decide +kernel) rfl
theorem jw_lch_c : Jvm.Cond.code jy_lch jb_lch 2 (some .char) ∈ mz_TB := mz_wd (i := 3020) (by decide +kernel) rfl
theorem jw_chr_c : Jvm.Cond.code jy_chr jb_chr 2 (some .char) ∈ mz_TB := mz_wd (i := 3013) (by decide +kernel) rfl
theorem jw_can_c : Jvm.Cond.code jy_can jb_can 1 (some .boolean) ∈ mz_TB := mz_wd (i := 3070) (by decide +kernel) rfl
theorem jw_ixc_c : Jvm.Cond.code jy_ixc jb_ixc 6 (some .int) ∈ mz_TB := mz_wd (i := 3079) (by decide +kernel) rfl
theorem jw_ixl_c : Jvm.Cond.code jy_ixl jb_ixl 4 (some .int) ∈ mz_TB := mz_wd (i := 3067) (by decide +kernel) rfl
theorem jw_ix2_c : Jvm.Cond.code jy_ix2 jb_ix2 3 (some .int) ∈ mz_TB := mz_wd (i := 3063) (by decide +kernel) rfl
theorem jw_ix1_c : Jvm.Cond.code jy_ix1 jb_ix1 2 (some .int) ∈ mz_TB := mz_wd (i := 3059) (by decide +kernel) rfl
theorem jw_cod_i : Jvm.Cond.instanceMethod jy_cod ∈ mz_TB := mz_wd (i := 3001) (by decide +kernel) rfl
theorem jw_cod_s : Jvm.Cond.selects "java/lang/String" jy_cod jy_cod ∈ mz_TB := mz_wd (i := 3002) (by decide +kernel) rfl
theorem jw_isl_i : Jvm.Cond.instanceMethod jy_isl ∈ mz_TB := mz_wd (i := 3015) (by decide +kernel) rfl
theorem jw_isl_s : Jvm.Cond.selects "java/lang/String" jy_isl jy_isl ∈ mz_TB := mz_wd (i := 3016) (by decide +kernel) rfl
theorem jw_len_i : Jvm.Cond.instanceMethod jy_len ∈ mz_TB := mz_wd (i := 2237) (by decide +kernel) rfl
theorem jw_len_s : Jvm.Cond.selects "java/lang/String" jy_len jy_len ∈ mz_TB := mz_wd (i := 2238) (by decide +kernel) rfl
theorem jw_chr_i : Jvm.Cond.instanceMethod jy_chr ∈ mz_TB := mz_wd (i := 3011) (by decide +kernel) rfl
theorem jw_chr_s : Jvm.Cond.selects "java/lang/String" jy_chr jy_chr ∈ mz_TB := mz_wd (i := 3012) (by decide +kernel) rfl
theorem jw_ix2_i : Jvm.Cond.instanceMethod jy_ix2 ∈ mz_TB := mz_wd (i := 3061) (by decide +kernel) rfl
theorem jw_ix2_s : Jvm.Cond.selects "java/lang/String" jy_ix2 jy_ix2 ∈ mz_TB := mz_wd (i := 3062) (by decide +kernel) rfl
theorem jw_ix1_i : Jvm.Cond.instanceMethod jy_ix1 ∈ mz_TB := mz_wd (i := 3057) (by decide +kernel) rfl
theorem jw_ix1_s : Jvm.Cond.selects "java/lang/String" jy_ix1 jy_ix1 ∈ mz_TB := mz_wd (i := 3058) (by decide +kernel) rfl
theorem jw_cki_s : Jvm.Cond.static jy_cki ∈ mz_TB := mz_wd (i := 3022) (by decide +kernel) rfl
theorem jw_pck_s : Jvm.Cond.static jy_pck ∈ mz_TB := mz_wd (i := 3027) (by decide +kernel) rfl
theorem jw_lch_s : Jvm.Cond.static jy_lch ∈ mz_TB := mz_wd (i := 3019) (by decide +kernel) rfl
theorem jw_can_s : Jvm.Cond.static jy_can ∈ mz_TB := mz_wd (i := 3069) (by decide +kernel) rfl
theorem jw_ixc_s : Jvm.Cond.static jy_ixc ∈ mz_TB := mz_wd (i := 3078) (by decide +kernel) rfl
theorem jw_ixl_s : Jvm.Cond.static jy_ixl ∈ mz_TB := mz_wd (i := 3066) (by decide +kernel) rfl
theorem jw_cod_l : Jvm.Cond.methodLink "java/lang/String" 335 jy_cod ∈ mz_TB := mz_wd (i := 3000) (by decide +kernel) rfl
theorem jw_isl_l : Jvm.Cond.methodLink "java/lang/String" 492 jy_isl ∈ mz_TB := mz_wd (i := 3014) (by decide +kernel) rfl
theorem jw_lch_l : Jvm.Cond.methodLink "java/lang/String" 495 jy_lch ∈ mz_TB := mz_wd (i := 3018) (by decide +kernel) rfl
theorem jw_cki_l : Jvm.Cond.methodLink "java/lang/StringLatin1" 9 jy_cki ∈ mz_TB := mz_wd (i := 3021) (by decide +kernel) rfl
theorem jw_pck_l : Jvm.Cond.methodLink "java/lang/String" 1059 jy_pck ∈ mz_TB := mz_wd (i := 3026) (by decide +kernel) rfl
theorem jw_ix2_l : Jvm.Cond.methodLink "java/lang/String" 633 jy_ix2 ∈ mz_TB := mz_wd (i := 3060) (by decide +kernel) rfl
theorem jw_len_l : Jvm.Cond.methodLink "java/lang/String" 505 jy_len ∈ mz_TB := mz_wd (i := 3064) (by decide +kernel) rfl
theorem jw_ixl_l : Jvm.Cond.methodLink "java/lang/String" 637 jy_ixl ∈ mz_TB := mz_wd (i := 3065) (by decide +kernel) rfl
theorem jw_can_l : Jvm.Cond.methodLink "java/lang/StringLatin1" 88 jy_can ∈ mz_TB := mz_wd (i := 3068) (by decide +kernel) rfl
theorem jw_ixc_l : Jvm.Cond.methodLink "java/lang/StringLatin1" 95 jy_ixc ∈ mz_TB := mz_wd (i := 3077) (by decide +kernel) rfl
theorem jw_len_t : Jvm.Cond.methodLink "MincedCases$Tokens" 79 jy_len ∈ mz_TB := mz_wd (i := 2236) (by decide +kernel) rfl
theorem jw_chr_t : Jvm.Cond.methodLink "MincedCases$Tokens" 87 jy_chr ∈ mz_TB := mz_wd (i := 3010) (by decide +kernel) rfl
theorem jw_ix1_t : Jvm.Cond.methodLink "MincedCases$Tokens" 67 jy_ix1 ∈ mz_TB := mz_wd (i := 3056) (by decide +kernel) rfl
theorem jw_max_l : Jvm.Cond.methodLink "java/lang/StringLatin1" 92 Lib.Math.max.name ∈ mz_TB := mz_wd (i := 3071) (by decide +kernel) rfl
theorem jw_min_l : Jvm.Cond.methodLink "java/lang/StringLatin1" 38 Lib.Math.min.name ∈ mz_TB := mz_wd (i := 3074) (by decide +kernel) rfl
theorem jw_fv : Jvm.Cond.fieldLink "java/lang/String" 9 "java/lang/String" "value" "[B" ∈ mz_TB := mz_wd (i := 8175) (by decide +kernel) rfl
theorem jw_fc : Jvm.Cond.fieldLink "java/lang/String" 15 "java/lang/String" "coder" "B" ∈ mz_TB := mz_wd (i := 8176) (by decide +kernel) rfl
theorem jw_fz : Jvm.Cond.fieldLink "java/lang/String" 38 "java/lang/String" "COMPACT_STRINGS" "Z" ∈ mz_TB := mz_wd (i := 3004) (by decide +kernel) rfl
theorem jw_ff : Jvm.Cond.fieldLink "java/lang/String" 1053 "jdk/internal/util/Preconditions" "SIOOBE_FORMATTER" "Ljava/util/function/BiFunction;" ∈ mz_TB := mz_wd (i := 3024) (by decide +kernel) rfl
theorem jw_is : Jvm.Cond.initialized "java/lang/String" ∈ mz_TB := mz_wd (i := 1014) (by decide +kernel) rfl
theorem jw_il : Jvm.Cond.initialized "java/lang/StringLatin1" ∈ mz_TB := mz_wd (i := 1015) (by decide +kernel) rfl
theorem jw_ip : Jvm.Cond.initialized "jdk/internal/util/Preconditions" ∈ mz_TB := mz_wd (i := 1016) (by decide +kernel) rfl
def js_W (adK adV : Nat → Nat) (fm : Option Nat) (H0 : Heap) (U : State) : Prop := U.heap = H0 ∧ js_K jsA adK adV fm U H0
def js_Q (v : Int32) (H0 : Heap) : Array Value → State → Outcome → State → Prop := va_Qi (S := Unit) (fun x _ => x = v) (fun _ t => t.heap = H0) jsA
def js_Qv (H0 : Heap) : Array Value → State → Outcome → State → Prop := va_Qv (S := Unit) (fun _ => True) (fun _ t => t.heap = H0) jsA
def js_rm (k : Nat) : Room := { frames := k, cells := 0, slots := 0, locals := 40 * k }
def js_ws (y : MethodName) (b : ByteArray) (n : Nat) (r : Option FieldType) : List Jvm.Cond := Jvm.Cond.code y b n r :: mz_TB
theorem js_good {y : MethodName} {b : ByteArray} {n : Nat} {r : Option FieldType} (h : Jvm.Cond.code y b n r ∈ mz_TB) : GoodIn mz_TB (js_ws y b n r) := by
  intro w hw
  rcases List.mem_cons.mp hw with rfl | hw
  · exact ⟨h, good_of_word (mz_TB_good _ h)⟩
  · exact ⟨hw, good_of_word (mz_TB_good _ hw)⟩
theorem js_bl (adK adV : Nat → Nat) (fm : Option Nat) (H0 : Heap) (vs : List Value) : FrameBlind (va_Pc vs (js_W adK adV fm H0)) := by
  intro a U f mk ⟨q1, q2, q3⟩
  exact ⟨q1, q2, js_K_mv (u := U) (U := U.calling f mk a) (Vm.Alike.refl U.vm) q3⟩
section JsW
variable {p : Program} {l : Launch} {e : Env} {R : Room} {s : State} {m : MethodId} {args : Array Value} {below : List Frame} {meth : Method} {c : Code} {H : Heap} {locs : List Loc} {cells slots : Nat} {Q : State → Prop}
variable {cc : ByteArray} {pc nL : Nat} {ls : Array Slot} {rest : List Value} {A0 : Nat → Prop} {own : String}
variable {adK adV : Nat → Nat} {fm : Option Nat}
/-- a call on a text constant -/
theorem js_cV {y : MethodName} {bytes : ByteArray} {maxL idx i n k : Nat} {ret : Option FieldType} {v : Int32} {As : List Value} (S : CallFix p m c cc nL s args mz_TB own) (hM : Met l y (js_ws y bytes maxL ret) (js_rm k) (va_Pc (.ref (adK i) :: As) (js_W adK adV fm H)) (js_Q v H) 0 0 jsA) (hi : i < 2)
    (hcd : Jvm.Cond.code y bytes maxL ret ∈ mz_TB) (hlk : Jvm.Cond.methodLink own idx y ∈ mz_TB) (him : Jvm.Cond.instanceMethod y ∈ mz_TB) (hse : Jvm.Cond.selects "java/lang/String" y y ∈ mz_TB)
    (hd : y.cls = "java/lang/String" ∧ (parseMethodDescriptor y.desc).map (fun d => d.parameters.length) = some n) (hn : As.length = n) (hR : k + 1 ≤ R.frames ∧ 8 + (maxL + 11) + 40 * k ≤ R.locals)
    (hK : js_K A0 adK adV fm s s.heap) (hS : va_S A0 s.heap H locs) (hls : ls.size = nL) (hroom : (rest.map fun v => v.category).sum ≤ 8) (hb : cells ≤ R.cells ∧ slots ≤ R.slots) (hdg : decode cc pc = .ok (.invokevirtual idx, 3))
    (kk : ∀ locs1, va_S A0 s.heap H locs1 → W p l e R s m args below meth c H locs1 cells slots Q (F0 m (pc + 3) ls (.int v :: rest))) : W p l e R s m args below meth c H locs cells slots Q (F0 m pc ls (As.reverse ++ .ref (adK i) :: rest)) := by
  have hts := S.2.2.2.2
  obtain ⟨hd1, hd2⟩ := hd
  have hK0 : js_K jsA adK adV fm s H := js_K_nr (js_K_kp hK hS.2.1) (fun _ z => z.elim)
  have hPV : PreV s H "java/lang/String" (adK i) (va_Pc (.ref (adK i) :: As) (js_W adK adV fm H)) As :=
    ⟨js_bl _ _ _ _ _, vk_recv hK.1 hi hS, fun U hU hW => ⟨rfl, hU, js_K_mv hW.alike hK0⟩⟩
  have cw : CallW R s args own "java/lang/String" idx y bytes maxL ret (js_ws y bytes maxL ret) (js_rm k) 0 0 n :=
    ⟨callB_of n hts (js_good hcd) rfl rfl rfl (by rw [hd1]; exact hts _ jw_is) (hts _ hlk) ⟨by rw [hd1]; decide, by rw [hd1]; decide, hd2⟩ hR, hts _ him, hts _ hse⟩
  refine va_calli (a := (Value.ref (adK i) :: As).toArray) (va_runV S hM cw hPV rfl hn hls rfl (lv_room hroom) hdg hb) hS (fun _ _ z => z.elim) (fun _ z => z.elim) (fun r u t H1 locs1 ht hvm hp hB hz hk hS1 => ?_)
  have hp : r = v := hp
  have hB : t.heap = H := hB
  rw [ht] at hB
  subst hp
  subst hB
  exact kk locs1 hS1
/-- a call of a static method there -/
theorem js_cS {y : MethodName} {bytes : ByteArray} {maxL idx n k : Nat} {ret : Option FieldType} {v : Int32} {As : List Value} (S : CallFix p m c cc nL s args mz_TB own) (hM : Met l y (js_ws y bytes maxL ret) (js_rm k) (va_Pc As (js_W adK adV fm H)) (js_Q v H) 0 0 jsA)
    (hcd : Jvm.Cond.code y bytes maxL ret ∈ mz_TB) (hlk : Jvm.Cond.methodLink own idx y ∈ mz_TB) (hst : Jvm.Cond.static y ∈ mz_TB) (hini : Jvm.Cond.initialized y.cls ∈ mz_TB)
    (hd : y.cls ≠ "java/lang/invoke/MethodHandle" ∧ y.cls ≠ "java/lang/invoke/VarHandle" ∧ (parseMethodDescriptor y.desc).map (fun d => d.parameters.length) = some n) (hn : As.length = n) (hR : k + 1 ≤ R.frames ∧ 8 + (maxL + 11) + 40 * k ≤ R.locals)
    (hK : js_K A0 adK adV fm s s.heap) (hS : va_S A0 s.heap H locs) (hls : ls.size = nL) (hroom : (rest.map fun v => v.category).sum ≤ 8) (hb : cells ≤ R.cells ∧ slots ≤ R.slots) (hdg : decode cc pc = .ok (.invokestatic idx, 3))
    (kk : ∀ locs1, va_S A0 s.heap H locs1 → W p l e R s m args below meth c H locs1 cells slots Q (F0 m (pc + 3) ls (.int v :: rest))) : W p l e R s m args below meth c H locs cells slots Q (F0 m pc ls (As.reverse ++ rest)) := by
  have hts := S.2.2.2.2
  have hK0 : js_K jsA adK adV fm s H := js_K_nr (js_K_kp hK hS.2.1) (fun _ z => z.elim)
  have hPS : PreS s H (va_Pc As (js_W adK adV fm H)) As := ⟨js_bl _ _ _ _ _, fun U hU hW => ⟨rfl, hU, js_K_mv hW.alike hK0⟩⟩
  refine va_calli (a := As.toArray) (va_runS S hM ⟨callB_of n hts (js_good hcd) rfl rfl rfl (hts _ hini) (hts _ hlk) hd hR, hts _ hst⟩ hPS rfl hn hls rfl (lv_room hroom) hdg hb) hS (fun _ _ z => z.elim) (fun _ z => z.elim) (fun r u t H1 locs1 ht hvm hp hB hz hk hS1 => ?_)
  have hp : r = v := hp
  have hB : t.heap = H := hB
  rw [ht] at hB
  subst hp
  subst hB
  exact kk locs1 hS1
theorem js_cSv {y : MethodName} {bytes : ByteArray} {maxL idx n k : Nat} {As : List Value} (S : CallFix p m c cc nL s args mz_TB own) (hM : Met l y (js_ws y bytes maxL none) (js_rm k) (va_Pc As (js_W adK adV fm H)) (js_Qv H) 0 0 jsA)
    (hcd : Jvm.Cond.code y bytes maxL none ∈ mz_TB) (hlk : Jvm.Cond.methodLink own idx y ∈ mz_TB) (hst : Jvm.Cond.static y ∈ mz_TB) (hini : Jvm.Cond.initialized y.cls ∈ mz_TB)
    (hd : y.cls ≠ "java/lang/invoke/MethodHandle" ∧ y.cls ≠ "java/lang/invoke/VarHandle" ∧ (parseMethodDescriptor y.desc).map (fun d => d.parameters.length) = some n) (hn : As.length = n) (hR : k + 1 ≤ R.frames ∧ 8 + (maxL + 11) + 40 * k ≤ R.locals)
    (hK : js_K A0 adK adV fm s s.heap) (hS : va_S A0 s.heap H locs) (hls : ls.size = nL) (hroom : (rest.map fun v => v.category).sum ≤ 8) (hb : cells ≤ R.cells ∧ slots ≤ R.slots) (hdg : decode cc pc = .ok (.invokestatic idx, 3))
    (kk : ∀ locs1, va_S A0 s.heap H locs1 → W p l e R s m args below meth c H locs1 cells slots Q (F0 m (pc + 3) ls rest)) : W p l e R s m args below meth c H locs cells slots Q (F0 m pc ls (As.reverse ++ rest)) := by
  have hts := S.2.2.2.2
  have hK0 : js_K jsA adK adV fm s H := js_K_nr (js_K_kp hK hS.2.1) (fun _ z => z.elim)
  have hPS : PreS s H (va_Pc As (js_W adK adV fm H)) As := ⟨js_bl _ _ _ _ _, fun U hU hW => ⟨rfl, hU, js_K_mv hW.alike hK0⟩⟩
  refine va_callv (a := As.toArray) (va_runS S hM ⟨callB_of n hts (js_good hcd) rfl rfl rfl (hts _ hini) (hts _ hlk) hd hR, hts _ hst⟩ hPS rfl hn hls rfl (lv_room hroom) hdg hb) hS (fun _ _ z => z.elim) (fun _ z => z.elim) (fun u t H1 locs1 ht hvm hp hB hz hk hS1 => ?_)
  have hB : t.heap = H := hB
  rw [ht] at hB
  subst hB
  exact kk locs1 hS1
end JsW
/-- what holds in such a method -/
def js_F (own : String) (b : ByteArray) (n : Nat) (r : Option FieldType) (p : Program) (s : State) (m : MethodId) (args : Array Value) (meth : Method) (c : Code) : Prop := CallFix p m c b n s args mz_TB own ∧ meth.locks = false ∧ meth.sig.returnType = r
theorem js_of {l : Launch} {y : MethodName} {b : ByteArray} {n k : Nat} {r : Option FieldType} {vs : List Value} {adK adV : Nat → Nat} {fm : Option Nat} {H0 : Heap} {Qc : Array Value → State → Outcome → State → Prop} (hp : plainName y.cls = true) (hl : (lg_sl vs).length ≤ n)
    (kk : ∀ (p : Program) (e : Env) (s : State) (m : MethodId) (args : Array Value) (below : List Frame) (meth : Method) (c : Code) (ls : Array Slot), js_F y.cls b n r p s m args meth c → js_W adK adV fm H0 s → lv_has ls n (lv_args 0 vs) → W p l e (js_rm k) s m args below meth c s.heap [] 0 0 (MQ below Qc args s 0 0 jsA) (F0 m 0 ls [])) : Met l y (js_ws y b n r) (js_rm k) (va_Pc vs (js_W adK adV fm H0)) Qc 0 0 jsA := by
  refine Met.ofW (cc := b) (maxL := n) (ret := r) hp rfl ?_
  intro p e s m args below meth c s₁ B hml hv
  obtain ⟨rfl, hw⟩ := hv
  have hts := atoms_spec (ws := js_ws y b n r) B.pre
  have F : js_F y.cls b n r p s m vs.toArray meth c := ⟨⟨B.exec, B.bytes, hml, findClass_of_methodNamed B.named, fun w hw => hts w (List.mem_cons_of_mem _ hw)⟩, B.notSynchronized, B.returns⟩
  have hl := lv_entry vs (n := n) hl
  rw [lg_entry_eq]
  generalize (lg_sl vs ++ List.replicate (n - (lg_sl vs).length) Slot.unset).toArray = ls at hl ⊢
  exact kk p e s m _ below meth c ls F hw hl
section JsM
variable {l : Launch} {adK adV : Nat → Nat} {fm : Option Nat} {H0 : Heap}
theorem jm_cod {i : Nat} (hi : i < 2) : Met l jy_cod (js_ws jy_cod jb_cod 1 (some .byte)) (js_rm 0) (va_Pc [.ref (adK i)] (js_W adK adV fm H0)) (js_Q 0 H0) 0 0 jsA := by
  refine js_of (by decide) (Nat.le_of_ble_eq_true rfl) ?_
  intro p e s m args below meth c ls ⟨S, hlocks, hr⟩ ⟨hH, hK⟩ hl
  obtain ⟨hx, hb, hml, hown, hts⟩ := S
  subst hH
  have hl : lv_has ls 1 [(0, .ref (adK i))] := hl
  have hS : va_S jsA s.heap s.heap [] := va_S.rf
  refine va_gets hx hb hK.2.1 hS hown (hts _ jw_fz) (fun _ h => h) jd_cod_0 ?_
  refine lv_if_eq hx hb jd_cod_3 (tgt := 13) rfl (fun z => absurd z (by decide)) (fun _ => ?_)
  refine lv_aload_n hx hb jd_cod_6 rfl (lv_at hl 0 rfl) ?_
  refine vk_getf hx hb (hK.1.1 i hi).2.1 hS hown (hts _ jw_fc) (fun _ h => h) jd_cod_7 ?_
  refine lv_goto hx hb jd_cod_10 (tgt := 14) rfl ?_
  exact W.zret (ty := .byte) hx hb hr (by decide) (fun t ht hW => ⟨⟨0, (), rfl, rfl, ht⟩, hS.F ht⟩) hS.2.2 jd_cod_14
theorem jm_isl {i : Nat} (hi : i < 2) : Met l jy_isl (js_ws jy_isl jb_isl 1 (some .boolean)) (js_rm 0) (va_Pc [.ref (adK i)] (js_W adK adV fm H0)) (js_Q 1 H0) 0 0 jsA := by
  refine js_of (by decide) (Nat.le_of_ble_eq_true rfl) ?_
  intro p e s m args below meth c ls ⟨S, hlocks, hr⟩ ⟨hH, hK⟩ hl
  obtain ⟨hx, hb, hml, hown, hts⟩ := S
  subst hH
  have hl : lv_has ls 1 [(0, .ref (adK i))] := hl
  have hS : va_S jsA s.heap s.heap [] := va_S.rf
  refine va_gets hx hb hK.2.1 hS hown (hts _ jw_fz) (fun _ h => h) jd_isl_0 ?_
  refine lv_if_eq hx hb jd_isl_3 (tgt := 17) rfl (fun z => absurd z (by decide)) (fun _ => ?_)
  refine lv_aload_n hx hb jd_isl_6 rfl (lv_at hl 0 rfl) ?_
  refine vk_getf hx hb (hK.1.1 i hi).2.1 hS hown (hts _ jw_fc) (fun _ h => h) jd_isl_7 ?_
  refine lv_if_ne hx hb jd_isl_10 (tgt := 17) rfl (fun z => absurd rfl z) (fun _ => ?_)
  refine lv_iconst hx hb jd_isl_13 (v := 1) rfl ?_
  refine lv_goto hx hb jd_isl_14 (tgt := 18) rfl ?_
  exact W.zret (ty := .boolean) hx hb hr (by decide) (fun t ht hW => ⟨⟨1, (), rfl, rfl, ht⟩, hS.F ht⟩) hS.2.2 jd_isl_18
theorem jm_len {i : Nat} (hi : i < 2) : Met l jy_len (js_ws jy_len jb_len 1 (some .int)) (js_rm 1) (va_Pc [.ref (adK i)] (js_W adK adV fm H0)) (js_Q (nI (js_len.getD i 0)) H0) 0 0 jsA := by
  refine js_of (by decide) (Nat.le_of_ble_eq_true rfl) ?_
  intro p e s m args below meth c ls ⟨S, hlocks, hr⟩ ⟨hH, hK⟩ hl
  have S0 := S
  obtain ⟨hx, hb, hml, hown, hts⟩ := S
  subst hH
  have hl : lv_has ls 1 [(0, .ref (adK i))] := hl
  have hS : va_S jsA s.heap s.heap [] := va_S.rf
  refine lv_aload_n hx hb jd_len_0 rfl (lv_at hl 0 rfl) ?_
  refine vk_getf hx hb (hK.1.1 i hi).2.2.1 hS hown (hts _ jw_fv) (fun _ h => h) jd_len_1 ?_
  refine va_tlen hx hb (hK.1.1 i hi).2.2.2 hS (v := nI (js_len.getD i 0)) rfl jd_len_4 ?_
  refine lv_aload_n hx hb jd_len_5 rfl (lv_at hl 0 rfl) ?_
  refine js_cV (As := []) (n := 0) (k := 0) S0 (jm_cod hi) hi jw_cod_c jw_cod_l jw_cod_i jw_cod_s ⟨rfl, by decide⟩ rfl ⟨by decide, by decide⟩ hK hS hl.1 (Nat.le_of_ble_eq_true rfl) ⟨Nat.le_refl _, Nat.le_refl _⟩ jd_len_6 (fun locs1 hS1 => ?_)
  refine lv_ishr hx hb jd_len_9 ?_
  have e0 : nI (js_len.getD i 0) >>> ((0 : Int32) &&& 31) = nI (js_len.getD i 0) := by
    rcases (show i = 0 ∨ i = 1 by omega) with rfl | rfl <;> decide
  rw [e0]
  exact W.iret hx hb hr (fun t ht hW => ⟨⟨_, (), rfl, rfl, ht⟩, hS1.F ht⟩) hS1.2.2 jd_len_10
theorem jm_pck {k n : Nat} (hk : k < n) (hn : n < 2 ^ 31) : Met l jy_pck (js_ws jy_pck jb_pck 3 (some .int)) (js_rm 0) (va_Pc [.int (nI k), .int (nI n), va_rf fm] (js_W adK adV fm H0)) (js_Q (nI k) H0) 0 0 jsA := by
  refine js_of (by decide) (by cases fm <;> exact Nat.le_of_ble_eq_true rfl) ?_
  intro p e s m args below meth c ls ⟨S, hlocks, hr⟩ ⟨hH, hK⟩ hl
  obtain ⟨hx, hb, hml, hown, hts⟩ := S
  subst hH
  have hl : lv_has ls 3 [(0, .int (nI k)), (1, .int (nI n)), (2, va_rf fm)] := hl
  have hS : va_S jsA s.heap s.heap [] := va_S.rf
  refine lv_iload_n hx hb jd_pck_0 rfl (lv_at hl 0 rfl) ?_
  refine lv_if_lt hx hb jd_pck_1 (tgt := 9) rfl (fun z => absurd z (nI_pos (by omega))) (fun _ => ?_)
  refine lv_iload_n hx hb jd_pck_4 rfl (lv_at hl 0 rfl) ?_
  refine lv_iload_n hx hb jd_pck_5 rfl (lv_at hl 1 rfl) ?_
  refine lv_icmp_lt hx hb jd_pck_6 (tgt := 16) rfl (fun _ => ?_) (fun z => absurd (nI_lt hk hn) z)
  refine lv_iload_n hx hb jd_pck_16 rfl (lv_at hl 0 rfl) ?_
  exact W.iret hx hb hr (fun t ht hW => ⟨⟨_, (), rfl, rfl, ht⟩, hS.F ht⟩) hS.2.2 jd_pck_17
theorem jm_cki {k n : Nat} (hk : k < n) (hn : n < 2 ^ 31) : Met l jy_cki (js_ws jy_cki jb_cki 2 none) (js_rm 1) (va_Pc [.int (nI k), .int (nI n)] (js_W adK adV fm H0)) (js_Qv H0) 0 0 jsA := by
  refine js_of (by decide) (Nat.le_of_ble_eq_true rfl) ?_
  intro p e s m args below meth c ls ⟨S, hlocks, hr⟩ ⟨hH, hK⟩ hl
  have S0 := S
  obtain ⟨hx, hb, hml, hown, hts⟩ := S
  subst hH
  have hl : lv_has ls 2 [(0, .int (nI k)), (1, .int (nI n))] := hl
  have hS : va_S jsA s.heap s.heap [] := va_S.rf
  refine lv_iload_n hx hb jd_cki_0 rfl (lv_at hl 0 rfl) ?_
  refine lv_iload_n hx hb jd_cki_1 rfl (lv_at hl 1 rfl) ?_
  refine va_gets hx hb hK.2.2 hS hown (hts _ jw_ff) (fun _ h => h) jd_cki_2 ?_
  refine js_cS (As := [.int (nI k), .int (nI n), va_rf fm]) (n := 3) (k := 0) (rest := []) S0 (jm_pck hk hn) jw_pck_c jw_pck_l jw_pck_s jw_ip ⟨by decide, by decide, by decide⟩ rfl ⟨by decide, by decide⟩ hK hS hl.1 (Nat.le_of_ble_eq_true rfl) ⟨Nat.le_refl _, Nat.le_refl _⟩ jd_cki_5 (fun locs1 hS1 => ?_)
  refine lv_pop hx hb jd_cki_8 rfl ?_
  exact W.vret hx hb hr (fun t ht hW => ⟨⟨(), rfl, trivial, ht⟩, hS1.F ht⟩) hS1.2.2 jd_cki_9
theorem js_as : (∀ x ∈ mz_sb 1000001, x &&& 255 = x ∧ (x.toUInt32 % 65536).toInt32 = x ∧ narrow .char (.int x) = .int x ∧ x.toInt8.toInt32 = x) ∧ ∀ x ∈ mz_sb 1000002, x &&& 255 = x ∧ (x.toUInt32 % 65536).toInt32 = x ∧ narrow .char (.int x) = .int x ∧ x.toInt8.toInt32 = x := by decide +kernel
theorem js_bt {i k : Nat} (hi : i < 2) (hk : k < js_len.getD i 0) : (js_byt.getD i []).getD k 0 &&& 255 = (js_byt.getD i []).getD k 0 ∧ (((js_byt.getD i []).getD k 0 : Int32).toUInt32 % 65536).toInt32 = (js_byt.getD i []).getD k 0 ∧ narrow .char (.int ((js_byt.getD i []).getD k 0)) = .int ((js_byt.getD i []).getD k 0) ∧ ((js_byt.getD i []).getD k 0 : Int32).toInt8.toInt32 = (js_byt.getD i []).getD k 0 := by
  have mm : ∀ (L : List Int32), k < L.length → L.getD k 0 ∈ L := fun L h => by
    rw [List.getD_eq_getElem?_getD, List.getElem?_eq_getElem h]
    exact List.getElem_mem h
  rcases (show i = 0 ∨ i = 1 by omega) with rfl | rfl
  · exact js_as.1 _ (mm (mz_sb 1000001) hk)
  · exact js_as.2 _ (mm (mz_sb 1000002) hk)
theorem js_l31 {i : Nat} (hi : i < 2) : js_len.getD i 0 < 2 ^ 31 := by rcases (show i = 0 ∨ i = 1 by omega) with rfl | rfl <;> decide
theorem jm_lch {i k : Nat} (hi : i < 2) (hk : k < js_len.getD i 0) : Met l jy_lch (js_ws jy_lch jb_lch 2 (some .char)) (js_rm 2) (va_Pc [.ref (adV i), .int (nI k)] (js_W adK adV fm H0)) (js_Q ((js_byt.getD i []).getD k 0) H0) 0 0 jsA := by
  refine js_of (by decide) (Nat.le_of_ble_eq_true rfl) ?_
  intro p e s m args below meth c ls ⟨S, hlocks, hr⟩ ⟨hH, hK⟩ hl
  have S0 := S
  obtain ⟨hx, hb, hml, hown, hts⟩ := S
  subst hH
  have l31 := js_l31 hi
  obtain ⟨b1, b2, b3, b4⟩ := js_bt hi hk
  have hl : lv_has ls 2 [(0, .ref (adV i)), (1, .int (nI k))] := hl
  have hS : va_S jsA s.heap s.heap [] := va_S.rf
  refine lv_iload_n hx hb jd_lch_0 rfl (lv_at hl 1 rfl) ?_
  refine lv_aload_n hx hb jd_lch_1 rfl (lv_at hl 0 rfl) ?_
  refine va_tlen hx hb (hK.1.1 i hi).2.2.2 hS (v := nI (js_len.getD i 0)) rfl jd_lch_2 ?_
  refine js_cSv (As := [.int (nI k), .int (nI (js_len.getD i 0))]) (n := 2) (k := 1) (rest := []) S0 (jm_cki hk l31) jw_cki_c jw_cki_l jw_cki_s jw_is ⟨by decide, by decide, by decide⟩ rfl ⟨by decide, by decide⟩ hK hS hl.1 (Nat.le_of_ble_eq_true rfl) ⟨Nat.le_refl _, Nat.le_refl _⟩ jd_lch_3 (fun locs1 hS1 => ?_)
  refine lv_aload_n hx hb jd_lch_6 rfl (lv_at hl 0 rfl) ?_
  refine lv_iload_n hx hb jd_lch_7 rfl (lv_at hl 1 rfl) ?_
  refine va_tb hx hb (hK.1.1 i hi).2.2.2 hS1 (i := nI k) (vp_in_nI hk l31) (v := .int ((js_byt.getD i []).getD k 0)) (by show Value.int _ = _; rw [nI_clamp (by omega)]) jd_lch_8 ?_
  refine lv_sipush hx hb jd_lch_9 (v := 255) (by decide) ?_
  refine lv_iand hx hb jd_lch_12 ?_
  rw [b1]
  refine lv_i2c hx hb jd_lch_13 b2 ?_
  exact W.zret (ty := .char) hx hb hr b3 (fun t ht hW => ⟨⟨_, (), rfl, rfl, ht⟩, hS1.F ht⟩) hS1.2.2 jd_lch_14
theorem jm_chr {i k : Nat} (hi : i < 2) (hk : k < js_len.getD i 0) : Met l jy_chr (js_ws jy_chr jb_chr 2 (some .char)) (js_rm 3) (va_Pc [.ref (adK i), .int (nI k)] (js_W adK adV fm H0)) (js_Q ((js_byt.getD i []).getD k 0) H0) 0 0 jsA := by
  refine js_of (by decide) (Nat.le_of_ble_eq_true rfl) ?_
  intro p e s m args below meth c ls ⟨S, hlocks, hr⟩ ⟨hH, hK⟩ hl
  have S0 := S
  obtain ⟨hx, hb, hml, hown, hts⟩ := S
  subst hH
  obtain ⟨b1, b2, b3, b4⟩ := js_bt hi hk
  have hl : lv_has ls 2 [(0, .ref (adK i)), (1, .int (nI k))] := hl
  have hS : va_S jsA s.heap s.heap [] := va_S.rf
  refine lv_aload_n hx hb jd_chr_0 rfl (lv_at hl 0 rfl) ?_
  refine js_cV (As := []) (n := 0) (k := 0) S0 (jm_isl hi) hi jw_isl_c jw_isl_l jw_isl_i jw_isl_s ⟨rfl, by decide⟩ rfl ⟨by decide, by decide⟩ hK hS hl.1 (Nat.le_of_ble_eq_true rfl) ⟨Nat.le_refl _, Nat.le_refl _⟩ jd_chr_1 (fun locs1 hS1 => ?_)
  refine lv_if_eq hx hb jd_chr_4 (tgt := 16) rfl (fun z => absurd z (by decide)) (fun _ => ?_)
  refine lv_aload_n hx hb jd_chr_7 rfl (lv_at hl 0 rfl) ?_
  refine vk_getf hx hb (hK.1.1 i hi).2.2.1 hS1 hown (hts _ jw_fv) (fun _ h => h) jd_chr_8 ?_
  refine lv_iload_n hx hb jd_chr_11 rfl (lv_at hl 1 rfl) ?_
  refine js_cS (As := [.ref (adV i), .int (nI k)]) (n := 2) (k := 2) (rest := []) S0 (jm_lch hi hk) jw_lch_c jw_lch_l jw_lch_s jw_il ⟨by decide, by decide, by decide⟩ rfl ⟨by decide, by decide⟩ hK hS1 hl.1 (Nat.le_of_ble_eq_true rfl) ⟨Nat.le_refl _, Nat.le_refl _⟩ jd_chr_12 (fun locs2 hS2 => ?_)
  exact W.zret (ty := .char) hx hb hr b3 (fun t ht hW => ⟨⟨_, (), rfl, rfl, ht⟩, hS2.F ht⟩) hS2.2.2 jd_chr_15
theorem jm_can {x : Int32} : Met l jy_can (js_ws jy_can jb_can 1 (some .boolean)) (js_rm 0) (va_Pc [.int x] (js_W adK adV fm H0)) (js_Q (if x < 0 ∨ 255 < x then 0 else 1) H0) 0 0 jsA := by
  refine js_of (by decide) (Nat.le_of_ble_eq_true rfl) ?_
  intro p e s m args below meth c ls ⟨S, hlocks, hr⟩ ⟨hH, hK⟩ hl
  obtain ⟨hx, hb, hml, hown, hts⟩ := S
  subst hH
  have hl : lv_has ls 1 [(0, .int x)] := hl
  have hS : va_S jsA s.heap s.heap [] := va_S.rf
  refine lv_iload_n hx hb jd_can_0 rfl (lv_at hl 0 rfl) ?_
  refine lv_if_lt hx hb jd_can_1 (tgt := 15) rfl (fun z => ?_) (fun z => ?_)
  · refine lv_iconst hx hb jd_can_15 (v := 0) rfl ?_
    exact W.zret (ty := .boolean) hx hb hr (by decide) (fun t ht hW => ⟨⟨0, (), rfl, by rw [if_pos (Or.inl z)], ht⟩, hS.F ht⟩) hS.2.2 jd_can_16
  · refine lv_iload_n hx hb jd_can_4 rfl (lv_at hl 0 rfl) ?_
    refine lv_sipush hx hb jd_can_5 (v := 255) (by decide) ?_
    refine lv_icmp_gt hx hb jd_can_8 (tgt := 15) rfl (fun w => ?_) (fun w => ?_)
    · refine lv_iconst hx hb jd_can_15 (v := 0) rfl ?_
      exact W.zret (ty := .boolean) hx hb hr (by decide) (fun t ht hW => ⟨⟨0, (), rfl, by rw [if_pos (Or.inr w)], ht⟩, hS.F ht⟩) hS.2.2 jd_can_16
    · refine lv_iconst hx hb jd_can_11 (v := 1) rfl ?_
      refine lv_goto hx hb jd_can_12 (tgt := 16) rfl ?_
      exact W.zret (ty := .boolean) hx hb hr (by decide) (fun t ht hW => ⟨⟨1, (), rfl, by rw [if_neg (fun q => q.elim z w)], ht⟩, hS.F ht⟩) hS.2.2 jd_can_16
theorem jm_ixc {i n : Nat} (hi : i < 2) (hn : n < 256) : Met l jy_ixc (js_ws jy_ixc jb_ixc 6 (some .int)) (js_rm 0) (va_Pc [.ref (adV i), .int (nI n), .int 0, .int (nI (js_len.getD i 0))] (js_W adK adV fm H0)) (js_Q (mz_ixF (nI n) (js_byt.getD i []) 0) H0) 0 0 jsA := by
  refine js_of (by decide) (Nat.le_of_ble_eq_true rfl) ?_
  intro p e s m args below meth c ls ⟨S, hlocks, hr⟩ ⟨hH, hK⟩ hl
  obtain ⟨hx, hb, hml, hown, hts⟩ := S
  subst hH
  have l31 := js_l31 hi
  have hl : lv_has ls 6 [(0, .ref (adV i)), (1, .int (nI n)), (2, .int 0), (3, .int (nI (js_len.getD i 0)))] := hl
  have hS : va_S jsA s.heap s.heap [] := va_S.rf
  have loop : ∀ (L : List Int32) (k : Nat), k + L.length = js_len.getD i 0 → (js_byt.getD i []).drop k = L → mz_ixF (nI n) L k = mz_ixF (nI n) (js_byt.getD i []) 0 → ∀ ls : Array Slot, lv_has ls 6 [(5, .int (nI k)), (4, .int ((nI n).toInt8.toInt32)), (0, .ref (adV i)), (1, .int (nI n)), (2, .int 0), (3, .int (nI (js_len.getD i 0)))] → W p l e (js_rm 0) s m args below meth c s.heap [] 0 0 (MQ below (js_Q (mz_ixF (nI n) (js_byt.getD i []) 0) s.heap) args s 0 0 jsA) (F0 m 7 ls []) := by
    intro L
    induction L with
    | nil =>
      intro k hk hd hv ls hl
      have hk : k = js_len.getD i 0 := hk
      refine lv_iload hx hb jd_ixc_7 (lv_at hl 0 rfl) ?_
      refine lv_iload_n hx hb jd_ixc_9 rfl (lv_at hl 5 rfl) ?_
      refine lv_icmp_ge hx hb jd_ixc_10 (tgt := 31) rfl (fun _ => ?_) (fun z => absurd (nI_le (Nat.le_of_eq hk.symm) (by omega)) z)
      refine lv_iconst hx hb jd_ixc_31 (v := -1) rfl ?_
      exact W.iret hx hb hr (fun t ht hW => ⟨⟨-1, (), rfl, hv, ht⟩, hS.F ht⟩) hS.2.2 jd_ixc_32
    | cons b L ih =>
      intro k hk hd hv ls hl
      have hk1 : k < js_len.getD i 0 := by
        have := List.length_cons (a := b) (as := L)
        omega
      have hb0 : (js_byt.getD i []).getD k 0 = b := by
        have q : ((js_byt.getD i []).drop k)[0]? = (js_byt.getD i [])[k + 0]? := List.getElem?_drop
        rw [hd, Nat.add_zero] at q
        rw [List.getD_eq_getElem?_getD, ← q]
        rfl
      have hd1 : (js_byt.getD i []).drop (k + 1) = L := by
        rw [← List.drop_drop, hd]
        rfl
      obtain ⟨b1, b2, b3, b4⟩ := js_bt hi hk1
      rw [hb0] at b1 b4
      have hc := sc_eq b4 hn
      rw [b1] at hc
      have hv : (if b = nI n then nI k else mz_ixF (nI n) L (k + 1)) = mz_ixF (nI n) (js_byt.getD i []) 0 := hv
      refine lv_iload hx hb jd_ixc_7 (lv_at hl 0 rfl) ?_
      refine lv_iload_n hx hb jd_ixc_9 rfl (lv_at hl 5 rfl) ?_
      refine lv_icmp_ge hx hb jd_ixc_10 (tgt := 31) rfl (fun z => absurd z (nI_ge hk1 l31)) (fun _ => ?_)
      refine lv_aload_n hx hb jd_ixc_13 rfl (lv_at hl 2 rfl) ?_
      refine lv_iload hx hb jd_ixc_14 (lv_at hl 0 rfl) ?_
      refine va_tb hx hb (hK.1.1 i hi).2.2.2 hS (i := nI k) (vp_in_nI hk1 l31) (v := .int b) (by show Value.int _ = _; rw [nI_clamp (by omega), hb0]) jd_ixc_16 ?_
      refine lv_iload hx hb jd_ixc_17 (lv_at hl 1 rfl) ?_
      refine lv_icmp_ne hx hb jd_ixc_19 (tgt := 25) rfl (fun z => ?_) (fun z => ?_)
      · rw [if_neg (fun w => z (hc.mpr w))] at hv
        refine lv_iinc hx hb jd_ixc_25 hl (k := 0) rfl (v := nI (k + 1)) (nI_succ k).symm (by decide) rfl (fun ls' hl' => ?_)
        refine lv_goto hx hb jd_ixc_28 (tgt := 7) rfl ?_
        exact ih (k + 1) (by have := List.length_cons (a := b) (as := L); omega) hd1 hv ls' hl'
      · rw [if_pos (hc.mp z)] at hv
        refine lv_iload hx hb jd_ixc_22 (lv_at hl 0 rfl) ?_
        exact W.iret hx hb hr (fun t ht hW => ⟨⟨nI k, (), rfl, hv, ht⟩, hS.F ht⟩) hS.2.2 jd_ixc_24
  refine lv_iload_n hx hb jd_ixc_0 rfl (lv_at hl 1 rfl) ?_
  refine lv_i2b hx hb jd_ixc_1 rfl ?_
  refine lv_istore hx hb jd_ixc_2 hl (by decide) rfl (fun ls1 hl1 => ?_)
  refine lv_iload_n hx hb jd_ixc_4 rfl (lv_at hl1 3 rfl) ?_
  refine lv_istore hx hb jd_ixc_5 hl1 (by decide) rfl (fun ls2 hl2 => ?_)
  refine loop (js_byt.getD i []) 0 ?_ rfl rfl ls2 hl2
  rcases (show i = 0 ∨ i = 1 by omega) with rfl | rfl <;> decide +kernel
theorem js_as2 : (∀ x ∈ mz_sb 1000001, ¬ x < 0 ∧ ¬ 255 < x) ∧ ∀ x ∈ mz_sb 1000002, ¬ x < 0 ∧ ¬ 255 < x := by decide +kernel
theorem js_ixn {x : Int32} : ∀ (L : List Int32) (k : Nat), (∀ b ∈ L, b ≠ x) → mz_ixF x L k = -1 := by
  intro L
  induction L with
  | nil => intro k _; rfl
  | cons b L ih =>
    intro k h
    show (if b = x then nI k else mz_ixF x L (k + 1)) = -1
    rw [if_neg (h b List.mem_cons_self)]
    exact ih (k + 1) (fun q hq => h q (List.mem_cons_of_mem _ hq))
theorem jm_ixl {i : Nat} {x : Int32} (hi : i < 2) : Met l jy_ixl (js_ws jy_ixl jb_ixl 4 (some .int)) (js_rm 1) (va_Pc [.ref (adV i), .int x, .int 0, .int (nI (js_len.getD i 0))] (js_W adK adV fm H0)) (js_Q (mz_ixF x (js_byt.getD i []) 0) H0) 0 0 jsA := by
  refine js_of (by decide) (Nat.le_of_ble_eq_true rfl) ?_
  intro p e s m args below meth c ls ⟨S, hlocks, hr⟩ ⟨hH, hK⟩ hl
  have S0 := S
  obtain ⟨hx, hb, hml, hown, hts⟩ := S
  subst hH
  have l31 := js_l31 hi
  have hl : lv_has ls 4 [(0, .ref (adV i)), (1, .int x), (2, .int 0), (3, .int (nI (js_len.getD i 0)))] := hl
  have hS : va_S jsA s.heap s.heap [] := va_S.rf
  refine lv_iload_n hx hb jd_ixl_0 rfl (lv_at hl 1 rfl) ?_
  refine js_cS (As := [.int x]) (n := 1) (k := 0) (rest := []) S0 jm_can jw_can_c jw_can_l jw_can_s jw_il ⟨by decide, by decide, by decide⟩ rfl ⟨by decide, by decide⟩ hK hS hl.1 (Nat.le_of_ble_eq_true rfl) ⟨Nat.le_refl _, Nat.le_refl _⟩ jd_ixl_1 (fun locs1 hS1 => ?_)
  by_cases hc : x < 0 ∨ 255 < x
  · rw [if_pos hc]
    refine lv_if_ne hx hb jd_ixl_4 (tgt := 9) rfl (fun z => absurd rfl z) (fun _ => ?_)
    refine lv_iconst hx hb jd_ixl_7 (v := -1) rfl ?_
    have hv : mz_ixF x (js_byt.getD i []) 0 = -1 := by
      refine js_ixn _ _ (fun b hb hbx => ?_)
      subst hbx
      rcases (show i = 0 ∨ i = 1 by omega) with rfl | rfl
      · exact hc.elim (js_as2.1 b hb).1 (js_as2.1 b hb).2
      · exact hc.elim (js_as2.2 b hb).1 (js_as2.2 b hb).2
    exact W.iret hx hb hr (fun t ht hW => ⟨⟨-1, (), rfl, hv.symm, ht⟩, hS1.F ht⟩) hS1.2.2 jd_ixl_8
  · rw [if_neg hc]
    obtain ⟨n, hn31, rfl⟩ := nI_of (x := x) (fun z => hc (Or.inl z))
    have hn : n < 256 := Nat.not_le.mp (fun z => hc (Or.inr (nI_lt (a := 255) (b := n) z hn31)))
    refine lv_if_ne hx hb jd_ixl_4 (tgt := 9) rfl (fun _ => ?_) (fun z => absurd z (by decide))
    refine lv_iload_n hx hb jd_ixl_9 rfl (lv_at hl 2 rfl) ?_
    refine lv_iconst hx hb jd_ixl_10 (v := 0) rfl ?_
    refine va_mmax hx hb (hml.trans hl.1.symm) hown (hts _ jw_max_l) (hts _ mz_w_smax) (hts _ mz_w_mi) (hts _ mz_w_cmax) (by decide) (Nat.le_of_ble_eq_true rfl) (Nat.le_refl _) (Nat.le_refl _) jd_ixl_11 ?_
    rw [ite_self]
    refine lv_istore_n hx hb jd_ixl_14 rfl hl (by decide) rfl (fun ls1 hl1 => ?_)
    refine lv_iload_n hx hb jd_ixl_15 rfl (lv_at hl1 3 rfl) ?_
    refine lv_aload_n hx hb jd_ixl_16 rfl (lv_at hl1 1 rfl) ?_
    refine va_tlen hx hb (hK.1.1 i hi).2.2.2 hS1 (v := nI (js_len.getD i 0)) rfl jd_ixl_17 ?_
    refine va_mmin hx hb (hml.trans hl1.1.symm) hown (hts _ jw_min_l) (hts _ mz_w_smin) (hts _ mz_w_mi) (hts _ mz_w_cmin) (by decide) (Nat.le_of_ble_eq_true rfl) (Nat.le_refl _) (Nat.le_refl _) jd_ixl_18 ?_
    rw [ite_self]
    refine lv_istore_n hx hb jd_ixl_21 rfl hl1 (by decide) rfl (fun ls2 hl2 => ?_)
    refine lv_iload_n hx hb jd_ixl_22 rfl (lv_at hl2 1 rfl) ?_
    refine lv_iload_n hx hb jd_ixl_23 rfl (lv_at hl2 0 rfl) ?_
    have l0 : 0 < js_len.getD i 0 := by rcases (show i = 0 ∨ i = 1 by omega) with rfl | rfl <;> decide
    refine lv_icmp_lt hx hb jd_ixl_24 (tgt := 29) rfl (fun _ => ?_) (fun z => absurd (nI_lt l0 l31) z)
    refine lv_aload_n hx hb jd_ixl_29 rfl (lv_at hl2 2 rfl) ?_
    refine lv_iload_n hx hb jd_ixl_30 rfl (lv_at hl2 3 rfl) ?_
    refine lv_iload_n hx hb jd_ixl_31 rfl (lv_at hl2 1 rfl) ?_
    refine lv_iload_n hx hb jd_ixl_32 rfl (lv_at hl2 0 rfl) ?_
    refine js_cS (As := [.ref (adV i), .int (nI n), .int 0, .int (nI (js_len.getD i 0))]) (n := 4) (k := 0) (rest := []) S0 (jm_ixc hi hn) jw_ixc_c jw_ixc_l jw_ixc_s jw_il ⟨by decide, by decide, by decide⟩ rfl ⟨by decide, by decide⟩ hK hS1 hl2.1 (Nat.le_of_ble_eq_true rfl) ⟨Nat.le_refl _, Nat.le_refl _⟩ jd_ixl_33 (fun locs2 hS2 => ?_)
    exact W.iret hx hb hr (fun t ht hW => ⟨⟨_, (), rfl, rfl, ht⟩, hS2.F ht⟩) hS2.2.2 jd_ixl_36
theorem jm_ix2 {i : Nat} {x : Int32} (hi : i < 2) : Met l jy_ix2 (js_ws jy_ix2 jb_ix2 3 (some .int)) (js_rm 2) (va_Pc [.ref (adK i), .int x, .int 0] (js_W adK adV fm H0)) (js_Q (mz_ixF x (js_byt.getD i []) 0) H0) 0 0 jsA := by
  refine js_of (by decide) (Nat.le_of_ble_eq_true rfl) ?_
  intro p e s m args below meth c ls ⟨S, hlocks, hr⟩ ⟨hH, hK⟩ hl
  have S0 := S
  obtain ⟨hx, hb, hml, hown, hts⟩ := S
  subst hH
  have hl : lv_has ls 3 [(0, .ref (adK i)), (1, .int x), (2, .int 0)] := hl
  have hS : va_S jsA s.heap s.heap [] := va_S.rf
  refine lv_aload_n hx hb jd_ix2_0 rfl (lv_at hl 0 rfl) ?_
  refine js_cV (As := []) (n := 0) (k := 0) S0 (jm_isl hi) hi jw_isl_c jw_isl_l jw_isl_i jw_isl_s ⟨rfl, by decide⟩ rfl ⟨by decide, by decide⟩ hK hS hl.1 (Nat.le_of_ble_eq_true rfl) ⟨Nat.le_refl _, Nat.le_refl _⟩ jd_ix2_1 (fun locs1 hS1 => ?_)
  refine lv_if_eq hx hb jd_ix2_4 (tgt := 23) rfl (fun z => absurd z (by decide)) (fun _ => ?_)
  refine lv_aload_n hx hb jd_ix2_7 rfl (lv_at hl 0 rfl) ?_
  refine vk_getf hx hb (hK.1.1 i hi).2.2.1 hS1 hown (hts _ jw_fv) (fun _ h => h) jd_ix2_8 ?_
  refine lv_iload_n hx hb jd_ix2_11 rfl (lv_at hl 1 rfl) ?_
  refine lv_iload_n hx hb jd_ix2_12 rfl (lv_at hl 2 rfl) ?_
  refine lv_aload_n hx hb jd_ix2_13 rfl (lv_at hl 0 rfl) ?_
  refine js_cV (As := []) (n := 0) (k := 1) S0 (jm_len hi) hi jw_len_c jw_len_l jw_len_i jw_len_s ⟨rfl, by decide⟩ rfl ⟨by decide, by decide⟩ hK hS1 hl.1 (Nat.le_of_ble_eq_true rfl) ⟨Nat.le_refl _, Nat.le_refl _⟩ jd_ix2_14 (fun locs2 hS2 => ?_)
  refine js_cS (As := [.ref (adV i), .int x, .int 0, .int (nI (js_len.getD i 0))]) (n := 4) (k := 1) (rest := []) S0 (jm_ixl hi) jw_ixl_c jw_ixl_l jw_ixl_s jw_il ⟨by decide, by decide, by decide⟩ rfl ⟨by decide, by decide⟩ hK hS2 hl.1 (Nat.le_of_ble_eq_true rfl) ⟨Nat.le_refl _, Nat.le_refl _⟩ jd_ix2_17 (fun locs3 hS3 => ?_)
  refine lv_goto hx hb jd_ix2_20 (tgt := 36) rfl ?_
  exact W.iret hx hb hr (fun t ht hW => ⟨⟨_, (), rfl, rfl, ht⟩, hS3.F ht⟩) hS3.2.2 jd_ix2_36
theorem jm_ix1 {i : Nat} {x : Int32} (hi : i < 2) : Met l jy_ix1 (js_ws jy_ix1 jb_ix1 2 (some .int)) (js_rm 3) (va_Pc [.ref (adK i), .int x] (js_W adK adV fm H0)) (js_Q (mz_ixF x (js_byt.getD i []) 0) H0) 0 0 jsA := by
  refine js_of (by decide) (Nat.le_of_ble_eq_true rfl) ?_
  intro p e s m args below meth c ls ⟨S, hlocks, hr⟩ ⟨hH, hK⟩ hl
  have S0 := S
  obtain ⟨hx, hb, hml, hown, hts⟩ := S
  subst hH
  have hl : lv_has ls 2 [(0, .ref (adK i)), (1, .int x)] := hl
  have hS : va_S jsA s.heap s.heap [] := va_S.rf
  refine lv_aload_n hx hb jd_ix1_0 rfl (lv_at hl 0 rfl) ?_
  refine lv_iload_n hx hb jd_ix1_1 rfl (lv_at hl 1 rfl) ?_
  refine lv_iconst hx hb jd_ix1_2 (v := 0) rfl ?_
  refine js_cV (As := [.int x, .int 0]) (n := 2) (k := 2) S0 (jm_ix2 hi) hi jw_ix2_c jw_ix2_l jw_ix2_i jw_ix2_s ⟨rfl, by decide⟩ rfl ⟨by decide, by decide⟩ hK hS hl.1 (Nat.le_of_ble_eq_true rfl) ⟨Nat.le_refl _, Nat.le_refl _⟩ jd_ix1_3 (fun locs1 hS1 => ?_)
  exact W.iret hx hb hr (fun t ht hW => ⟨⟨_, (), rfl, rfl, ht⟩, hS1.F ht⟩) hS1.2.2 jd_ix1_6
end JsM
/-! the class's three calls -/
def mz_iv (c : Nat) (e : MzE) : Bool := match e.2.1 with
  | .invokevirtual i => (!(Nat.beq e.2.2.2.1.1 9990) || (Nat.beq c 9 && Nat.beq i 79)) && ((!(Nat.beq e.2.2.2.1.1 9991) || (Nat.beq c 9 && Nat.beq i 87)) && (!(Nat.beq e.2.2.2.1.1 9992) || (Nat.beq c 9 && Nat.beq i 67)))
  | _ => true
theorem mz_iv_all : ∀ M, M < 292 → (mz_code M).all (mz_iv (mz_c M)) = true := by decide +kernel
theorem mz_iv_at {M pc i ln : Nat} {r : Nat × Nat × Nat} {mk : List Bool} (h : mz_fd (mz_code M) pc = some (pc, .invokevirtual i, ln, r, mk)) : (r.1 = 9990 → mz_c M = 9 ∧ i = 79) ∧ (r.1 = 9991 → mz_c M = 9 ∧ i = 87) ∧ (r.1 = 9992 → mz_c M = 9 ∧ i = 67) := by
  obtain ⟨h1, h2⟩ := mz_fd_mem _ _ _ h
  have hM : M < 292 := by
    rcases Nat.lt_or_ge M 292 with q | q
    · exact q
    · have : mz_code M = [] := by
        unfold mz_code
        rw [List.getD_eq_getElem?_getD, List.getElem?_eq_none (by rw [mz_ml_len]; exact q)]
        rfl
      rw [this] at h1
      cases h1
  have hc : ((!(Nat.beq r.1 9990) || (Nat.beq (mz_c M) 9 && Nat.beq i 79)) && ((!(Nat.beq r.1 9991) || (Nat.beq (mz_c M) 9 && Nat.beq i 87)) && (!(Nat.beq r.1 9992) || (Nat.beq (mz_c M) 9 && Nat.beq i 67)))) = true := List.all_eq_true.mp (mz_iv_all M hM) _ h1
  have hn : ∀ {x n : Nat} {b : Bool}, (!(Nat.beq x n) || b) = true → x = n → b = true := by
    intro x n b hb hx
    subst hx
    rw [Nat.beq_refl] at hb
    exact hb
  have ha : ∀ {x y a b : Nat}, (Nat.beq x a && Nat.beq y b) = true → x = a ∧ y = b := by
    intro x y a b hb
    have := Bool.and_eq_true_iff.mp hb
    exact ⟨Nat.eq_of_beq_eq_true this.1, Nat.eq_of_beq_eq_true this.2⟩
  have c1 := Bool.and_eq_true_iff.mp hc
  have c2 := Bool.and_eq_true_iff.mp c1.2
  exact ⟨fun z => ha (hn c1.1 z), fun z => ha (hn c2.1 z), fun z => ha (hn c2.2 z)⟩
theorem mz_cn9 : mz_cnm 9 = "MincedCases$Tokens" := by decide +kernel
theorem mz_sa {g : MzG} {a : Nat} (h : a = 1000001 ∨ a = 1000002) : ∃ i, i < 2 ∧ mz_ad g a = g.2.2.2.1 (i + 1) ∧ mz_sb a = js_byt.getD i [] ∧ (mz_sb a).length = js_len.getD i 0 := by
  rcases h with rfl | rfl
  · exact ⟨0, by decide, by unfold mz_ad; rw [if_neg (by decide), if_pos (by decide)], rfl, by decide +kernel⟩
  · exact ⟨1, by decide, by unfold mz_ad; rw [if_neg (by decide), if_pos (by decide)], rfl, by decide +kernel⟩
section MzTx
variable {g : MzG} {X : MzX} {M n0 z0 : Nat} {p : Program} {l : Launch} {e : Env} {R : Room} {s : State} {m : MethodId} {args : Array Value} {below : List Frame} {meth : Method} {c : Code} {Q : State → Prop}
variable {pc : Nat} {L : MzL} {st : List Value} {h : MzH} {q : Nat × MzL × List Value × MzH}
theorem mz_t_ldcS (F : mz_fr g M p R s m args meth c) {i r1 : Nat} (hc : (Nat.beq (mz_c M) 9 && ((Nat.beq i 77 && Nat.beq r1 1) || (Nat.beq i 65 && Nat.beq r1 2))) = true) (hd : decode (mz_b M) pc = .ok (.ldc i, 2)) (ha : mz_nx (pc + 2) L (.ref (1000000 + r1) :: st) h = some (.inl q)) (k : mz_K g X M n0 z0 p l e R s m args below meth c Q q) : mz_K g X M n0 z0 p l e R s m args below meth c Q (pc, L, st, h) := by
  obtain rfl := mz_nx_inv ha
  simp only [Bool.and_eq_true, Bool.or_eq_true] at hc
  obtain ⟨c1, c2⟩ := hc
  have hown := F.2.2.2.1
  rw [Nat.eq_of_beq_eq_true c1, mz_cn9] at hown
  obtain ⟨adV, fm, -, ⟨t1, s1⟩, ⟨t2, s2⟩⟩ := F.2.2.2.2.2.2.1.2.1
  intro ls H locs cells slots h1 h2 h3 h4 h5
  have kk : W p l e R s m args below meth c H locs cells slots Q (F0 m (pc + 2) ls (.ref (mz_ad g (1000000 + r1)) :: st.map (mz_up g))) := k ls H locs cells slots h1 h2 h3 h4 h5
  rcases c2 with ⟨a, b⟩ | ⟨a, b⟩
  · have a := Nat.eq_of_beq_eq_true a
    have b := Nat.eq_of_beq_eq_true b
    subst a
    subst b
    have e0 : mz_ad g (1000000 + 1) = g.2.2.2.1 1 := by unfold mz_ad; rw [if_neg (by decide), if_pos (by decide)]
    rw [e0] at kk
    exact va_ldcS F.1 F.2.1 hown s1 hd kk
  · have a := Nat.eq_of_beq_eq_true a
    have b := Nat.eq_of_beq_eq_true b
    subst a
    subst b
    have e0 : mz_ad g (1000000 + 2) = g.2.2.2.1 2 := by unfold mz_ad; rw [if_neg (by decide), if_pos (by decide)]
    rw [e0] at kk
    exact va_ldcS F.1 F.2.1 hown s2 hd kk
theorem mz_t_sln (F : mz_fr g M p R s m args meth c) {i : Nat} (hi : mz_c M = 9 ∧ i = 79) (hb1 : q.2.2.2.1.1.length ≤ R.cells + n0) (hb2 : mz_sz q.2.2.2.1 ≤ R.slots + z0) (hd : decode (mz_b M) pc = .ok (.invokevirtual i, 3)) (ha : mz_sln pc L st h = some (.inl q)) (k : mz_K g X M n0 z0 p l e R s m args below meth c Q q) : mz_K g X M n0 z0 p l e R s m args below meth c Q (pc, L, st, h) := by
  unfold mz_sln at ha
  split at ha
  next a st' =>
    split at ha
    next hc =>
      obtain rfl := mz_nx_inv ha
      obtain ⟨c1, rfl⟩ := hi
      have hown := F.2.2.2.1
      rw [c1, mz_cn9] at hown
      obtain ⟨adV, fm, hK, -⟩ := F.2.2.2.2.2.2.1.2.1
      have hfr := F.2.2.2.2.2.2.1.2.2
      obtain ⟨j, hj, e1, e2, e3⟩ := mz_sa (g := g) hc.1
      intro ls H locs cells slots h1 h2 h3 h4 h5
      have h4 : cells + n0 = h.1.1.length := h4
      have h5 : slots + z0 = mz_sz h.1 := h5
      have hb1 : h.1.1.length ≤ R.cells + n0 := hb1
      have hb2 : mz_sz h.1 ≤ R.slots + z0 := hb2
      have kk : ∀ locs1, va_S (mz_A g) s.heap H locs1 → W p l e R s m args below meth c H locs1 cells slots Q (F0 m (pc + 3) ls (.int (nI (mz_sb a).length) :: st'.map (mz_up g))) := fun locs1 z => k ls H locs1 cells slots h1 h2 z h4 h5
      rw [e3] at kk
      show W p l e R s m args below meth c H locs cells slots Q (F0 m pc ls (.ref (mz_ad g a) :: st'.map (mz_up g)))
      rw [e1]
      exact js_cV (As := []) (i := j) (n := 0) (k := 1) (adK := fun i => g.2.2.2.1 (i + 1)) (A0 := mz_A g) ⟨F.1, F.2.1, F.2.2.1, hown, F.2.2.2.2.1⟩ (jm_len (adK := fun i => g.2.2.2.1 (i + 1)) hj) hj jw_len_c jw_len_t jw_len_i jw_len_s ⟨rfl, by decide⟩ rfl ⟨by omega, by omega⟩ hK h3 h1.2.1 (by rw [mz_up_sum]; exact hc.2) ⟨by omega, by omega⟩ hd kk
    next => cases ha
  next => cases ha
theorem mz_t_sch (F : mz_fr g M p R s m args meth c) {i : Nat} (hi : mz_c M = 9 ∧ i = 87) (hb1 : q.2.2.2.1.1.length ≤ R.cells + n0) (hb2 : mz_sz q.2.2.2.1 ≤ R.slots + z0) (hd : decode (mz_b M) pc = .ok (.invokevirtual i, 3)) (ha : mz_sch pc L st h = some (.inl q)) (k : mz_K g X M n0 z0 p l e R s m args below meth c Q q) : mz_K g X M n0 z0 p l e R s m args below meth c Q (pc, L, st, h) := by
  unfold mz_sch at ha
  split at ha
  next x a st' =>
    split at ha
    next hc =>
      obtain rfl := mz_nx_inv ha
      obtain ⟨c1, rfl⟩ := hi
      have hown := F.2.2.2.1
      rw [c1, mz_cn9] at hown
      obtain ⟨adV, fm, hK, -⟩ := F.2.2.2.2.2.2.1.2.1
      have hfr := F.2.2.2.2.2.2.1.2.2
      obtain ⟨j, hj, e1, e2, e3⟩ := mz_sa (g := g) hc.1
      have hx := mz_ok_inv hc.2.1
      obtain ⟨y, hy, rfl⟩ := nI_of (x := x) (fun z => hx (Or.inl z))
      have hy2 : y < js_len.getD j 0 := by
        rw [← e3]
        refine Nat.not_le.mp (fun z => hx (Or.inr ?_))
        rw [nI_clamp hy]
        exact z
      intro ls H locs cells slots h1 h2 h3 h4 h5
      have h4 : cells + n0 = h.1.1.length := h4
      have h5 : slots + z0 = mz_sz h.1 := h5
      have hb1 : h.1.1.length ≤ R.cells + n0 := hb1
      have hb2 : mz_sz h.1 ≤ R.slots + z0 := hb2
      have kk : ∀ locs1, va_S (mz_A g) s.heap H locs1 → W p l e R s m args below meth c H locs1 cells slots Q (F0 m (pc + 3) ls (.int ((mz_sb a).getD (nI y).toNatClampNeg 0) :: st'.map (mz_up g))) := fun locs1 z => k ls H locs1 cells slots h1 h2 z h4 h5
      rw [e2, nI_clamp hy] at kk
      show W p l e R s m args below meth c H locs cells slots Q (F0 m pc ls (.int (nI y) :: .ref (mz_ad g a) :: st'.map (mz_up g)))
      rw [e1]
      exact js_cV (As := [.int (nI y)]) (i := j) (n := 1) (k := 3) (adK := fun i => g.2.2.2.1 (i + 1)) (A0 := mz_A g) ⟨F.1, F.2.1, F.2.2.1, hown, F.2.2.2.2.1⟩ (jm_chr (adK := fun i => g.2.2.2.1 (i + 1)) hj hy2) hj jw_chr_c jw_chr_t jw_chr_i jw_chr_s ⟨rfl, by decide⟩ rfl ⟨by omega, by omega⟩ hK h3 h1.2.1 (by rw [mz_up_sum]; exact hc.2.2) ⟨by omega, by omega⟩ hd kk
    next => cases ha
  next => cases ha
theorem mz_t_six (F : mz_fr g M p R s m args meth c) {i : Nat} (hi : mz_c M = 9 ∧ i = 67) (hb1 : q.2.2.2.1.1.length ≤ R.cells + n0) (hb2 : mz_sz q.2.2.2.1 ≤ R.slots + z0) (hd : decode (mz_b M) pc = .ok (.invokevirtual i, 3)) (ha : mz_six pc L st h = some (.inl q)) (k : mz_K g X M n0 z0 p l e R s m args below meth c Q q) : mz_K g X M n0 z0 p l e R s m args below meth c Q (pc, L, st, h) := by
  unfold mz_six at ha
  split at ha
  next x a st' =>
    split at ha
    next hc =>
      obtain rfl := mz_nx_inv ha
      obtain ⟨c1, rfl⟩ := hi
      have hown := F.2.2.2.1
      rw [c1, mz_cn9] at hown
      obtain ⟨adV, fm, hK, -⟩ := F.2.2.2.2.2.2.1.2.1
      have hfr := F.2.2.2.2.2.2.1.2.2
      obtain ⟨j, hj, e1, e2, e3⟩ := mz_sa (g := g) hc.1
      intro ls H locs cells slots h1 h2 h3 h4 h5
      have h4 : cells + n0 = h.1.1.length := h4
      have h5 : slots + z0 = mz_sz h.1 := h5
      have hb1 : h.1.1.length ≤ R.cells + n0 := hb1
      have hb2 : mz_sz h.1 ≤ R.slots + z0 := hb2
      have kk : ∀ locs1, va_S (mz_A g) s.heap H locs1 → W p l e R s m args below meth c H locs1 cells slots Q (F0 m (pc + 3) ls (.int (mz_ixF x (mz_sb a) 0) :: st'.map (mz_up g))) := fun locs1 z => k ls H locs1 cells slots h1 h2 z h4 h5
      rw [e2] at kk
      show W p l e R s m args below meth c H locs cells slots Q (F0 m pc ls (.int x :: .ref (mz_ad g a) :: st'.map (mz_up g)))
      rw [e1]
      exact js_cV (As := [.int x]) (i := j) (n := 1) (k := 3) (adK := fun i => g.2.2.2.1 (i + 1)) (A0 := mz_A g) ⟨F.1, F.2.1, F.2.2.1, hown, F.2.2.2.2.1⟩ (jm_ix1 (adK := fun i => g.2.2.2.1 (i + 1)) hj) hj jw_ix1_c jw_ix1_t jw_ix1_i jw_ix1_s ⟨rfl, by decide⟩ rfl ⟨by omega, by omega⟩ hK h3 h1.2.1 (by rw [mz_up_sum]; exact hc.2) ⟨by omega, by omega⟩ hd kk
    next => cases ha
  next => cases ha
end MzTx
