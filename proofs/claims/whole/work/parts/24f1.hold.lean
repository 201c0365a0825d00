set_option maxRecDepth 100000 in
theorem xo_127_0 : ∀ e ∈ ([(0, 1, .aload_n 0, 0, 0, .null, [], none),
  (1, 3, .getfield 25, 3, 7, .null, [], none),
  (4, 1, .iload_n 1, 1, 0, .null, [], none),
  (5, 1, .iaload, 0, 0, .null, [], none),
  (6, 1, .aload_n 2, 2, 0, .null, [], none),
  (7, 3, .getfield 25, 3, 7, .null, [], none),
  (10, 1, .iload_n 3, 3, 0, .null, [], none),
  (11, 1, .iaload, 0, 0, .null, [], none),
  (12, 3, .if_icmp .eq 5, 17, 0, .null, [], none),
  (15, 1, .iconst 0, 0, 0, .int 0, [], none),
  (16, 1, .ireturn, 0, 0, .null, [], none),
  (17, 1, .aload_n 0, 0, 0, .null, [], none),
  (18, 3, .getfield 25, 3, 7, .null, [], none),
  (21, 1, .iload_n 1, 1, 0, .null, [], none),
  (22, 1, .iaload, 0, 0, .null, [], none),
  (23, 1, .iconst 2, 0, 0, .int 2, [], none),
  (24, 3, .if_icmp .ne 34, 58, 0, .null, [], none),
  (27, 2, .aload 4, 4, 0, .null, [], none),
  (29, 1, .aload_n 0, 0, 0, .null, [], none),
  (30, 3, .getfield 28, 3, 8, .null, [], none),
  (33, 1, .iload_n 1, 1, 0, .null, [], none),
  (34, 1, .iaload, 0, 0, .null, [], none),
  (35, 3, .invokevirtual 66, 109, 2, .retAddr 0, [], none),
  (38, 2, .aload 4, 4, 0, .null, [], none),
  (40, 1, .aload_n 2, 2, 0, .null, [], none),
  (41, 3, .getfield 28, 3, 8, .null, [], none),
  (44, 1, .iload_n 3, 3, 0, .null, [], none),
  (45, 1, .iaload, 0, 0, .null, [], none),
  (46, 3, .invokevirtual 66, 109, 2, .retAddr 0, [], none),
  (49, 3, .if_icmp .ne 7, 56, 0, .null, [], none),
  (52, 1, .iconst 1, 0, 0, .int 1, [], none),
  (53, 3, .goto 4, 57, 0, .null, [], none),
  (56, 1, .iconst 0, 0, 0, .int 0, [], none),
  (57, 1, .ireturn, 0, 0, .null, [], none),
  (58, 1, .aload_n 0, 0, 0, .null, [], none),
  (59, 3, .getfield 28, 3, 8, .null, [], none),
  (62, 1, .iload_n 1, 1, 0, .null, [], none),
  (63, 1, .iaload, 0, 0, .null, [], none),
  (64, 1, .aload_n 2, 2, 0, .null, [], none),
  (65, 3, .getfield 28, 3, 8, .null, [], none)] : List xr_E), xr_sd xm_P 127 e := by
  have hc : xp_cd xm_P 127 = prog_5_method_17_code := rfl
  have ho : xp_own xm_P 127 = "ExchangeText$Model" := rfl
  have hm : xp_ml xm_P 127 = 9 := rfl
  exact xl_cons (xk_aload_n hc xd_127_0 rfl) <|
    xl_cons (xk_getfield (C := xm_C3) (T := xm_T3) (N := 11) hc xd_127_1 ho rfl (by decide) xm_u3 xl_380) <|
    xl_cons (xk_iload_n hc xd_127_4 rfl) <|
    xl_cons (xk_iaload hc xd_127_5) <|
    xl_cons (xk_aload_n hc xd_127_6 rfl) <|
    xl_cons (xk_getfield (C := xm_C3) (T := xm_T3) (N := 11) hc xd_127_7 ho rfl (by decide) xm_u3 xl_380) <|
    xl_cons (xk_iload_n hc xd_127_10 rfl) <|
    xl_cons (xk_iaload hc xd_127_11) <|
    xl_cons (xk_if_icmp hc xd_127_12 (by decide)) <|
    xl_cons (xk_iconst hc xd_127_15 (by decide)) <|
    xl_cons (xk_ireturn hc xd_127_16) <|
    xl_cons (xk_aload_n hc xd_127_17 rfl) <|
    xl_cons (xk_getfield (C := xm_C3) (T := xm_T3) (N := 11) hc xd_127_18 ho rfl (by decide) xm_u3 xl_380) <|
    xl_cons (xk_iload_n hc xd_127_21 rfl) <|
    xl_cons (xk_iaload hc xd_127_22) <|
    xl_cons (xk_iconst hc xd_127_23 (by decide)) <|
    xl_cons (xk_if_icmp hc xd_127_24 (by decide)) <|
    xl_cons (xk_aload hc xd_127_27 rfl) <|
    xl_cons (xk_aload_n hc xd_127_29 rfl) <|
    xl_cons (xk_getfield (C := xm_C3) (T := xm_T3) (N := 11) hc xd_127_30 ho rfl (by decide) xm_u3 xl_381) <|
    xl_cons (xk_iload_n hc xd_127_33 rfl) <|
    xl_cons (xk_iaload hc xd_127_34) <|
    xl_cons (xk_callV (Y := xm_y109) ho rfl (by decide) ⟨by decide, by decide⟩ xl_30 hc xd_127_35 rfl (b' := 1) rfl xm_nd109 (T := xm_T5) (N := 1) rfl xl_396 xl_158 xl_159) <|
    xl_cons (xk_aload hc xd_127_38 rfl) <|
    xl_cons (xk_aload_n hc xd_127_40 rfl) <|
    xl_cons (xk_getfield (C := xm_C3) (T := xm_T3) (N := 11) hc xd_127_41 ho rfl (by decide) xm_u3 xl_381) <|
    xl_cons (xk_iload_n hc xd_127_44 rfl) <|
    xl_cons (xk_iaload hc xd_127_45) <|
    xl_cons (xk_callV (Y := xm_y109) ho rfl (by decide) ⟨by decide, by decide⟩ xl_30 hc xd_127_46 rfl (b' := 1) rfl xm_nd109 (T := xm_T5) (N := 1) rfl xl_396 xl_158 xl_159) <|
    xl_cons (xk_if_icmp hc xd_127_49 (by decide)) <|
    xl_cons (xk_iconst hc xd_127_52 (by decide)) <|
    xl_cons (xk_goto hc xd_127_53 (by decide)) <|
    xl_cons (xk_iconst hc xd_127_56 (by decide)) <|
    xl_cons (xk_ireturn hc xd_127_57) <|
    xl_cons (xk_aload_n hc xd_127_58 rfl) <|
    xl_cons (xk_getfield (C := xm_C3) (T := xm_T3) (N := 11) hc xd_127_59 ho rfl (by decide) xm_u3 xl_381) <|
    xl_cons (xk_iload_n hc xd_127_62 rfl) <|
    xl_cons (xk_iaload hc xd_127_63) <|
    xl_cons (xk_aload_n hc xd_127_64 rfl) <|
    xl_cons (xk_getfield (C := xm_C3) (T := xm_T3) (N := 11) hc xd_127_65 ho rfl (by decide) xm_u3 xl_381) (xl_nil)
set_option maxRecDepth 100000 in
theorem xo_127_1 : ∀ e ∈ ([(68, 1, .iload_n 3, 3, 0, .null, [], none),
  (69, 1, .iaload, 0, 0, .null, [], none),
  (70, 3, .if_icmp .eq 5, 75, 0, .null, [], none),
  (73, 1, .iconst 0, 0, 0, .int 0, [], none),
  (74, 1, .ireturn, 0, 0, .null, [], none),
  (75, 1, .aload_n 0, 0, 0, .null, [], none),
  (76, 3, .getfield 25, 3, 7, .null, [], none),
  (79, 1, .iload_n 1, 1, 0, .null, [], none),
  (80, 1, .iaload, 0, 0, .null, [], none),
  (81, 1, .iconst 4, 0, 0, .int 4, [], none),
  (82, 3, .if_icmp .ne 7, 89, 0, .null, [], none),
  (85, 1, .iconst 1, 0, 0, .int 1, [], none),
  (86, 3, .goto 4, 90, 0, .null, [], none),
  (89, 1, .iconst 0, 0, 0, .int 0, [], none),
  (90, 2, .istore 5, 5, 0, .null, [], none),
  (92, 1, .iconst 0, 0, 0, .int 0, [], none),
  (93, 2, .istore 6, 6, 0, .null, [], none),
  (95, 2, .iload 6, 6, 0, .null, [], none),
  (97, 1, .aload_n 0, 0, 0, .null, [], none),
  (98, 1, .iload_n 1, 1, 0, .null, [], none),
  (99, 3, .invokevirtual 71, 119, 2, .retAddr 0, [], none),
  (102, 3, .if_icmp .ge 61, 163, 0, .null, [], none),
  (105, 1, .aload_n 0, 0, 0, .null, [], none),
  (106, 1, .iload_n 1, 1, 0, .null, [], none),
  (107, 2, .iload 6, 6, 0, .null, [], none),
  (109, 3, .invokevirtual 55, 120, 3, .retAddr 0, [], none),
  (112, 2, .istore 7, 7, 0, .null, [], none),
  (114, 1, .aload_n 2, 2, 0, .null, [], none),
  (115, 1, .iload_n 3, 3, 0, .null, [], none),
  (116, 2, .iload 6, 6, 0, .null, [], none),
  (118, 3, .invokevirtual 55, 120, 3, .retAddr 0, [], none),
  (121, 2, .istore 8, 8, 0, .null, [], none),
  (123, 2, .iload 5, 5, 0, .null, [], none),
  (125, 3, .ifCond .eq 23, 148, 0, .null, [], none),
  (128, 2, .aload 4, 4, 0, .null, [], none),
  (130, 2, .iload 7, 7, 0, .null, [], none),
  (132, 3, .invokevirtual 66, 109, 2, .retAddr 0, [], none),
  (135, 2, .aload 4, 4, 0, .null, [], none),
  (137, 2, .iload 8, 8, 0, .null, [], none),
  (139, 3, .invokevirtual 66, 109, 2, .retAddr 0, [], none)] : List xr_E), xr_sd xm_P 127 e := by
  have hc : xp_cd xm_P 127 = prog_5_method_17_code := rfl
  have ho : xp_own xm_P 127 = "ExchangeText$Model" := rfl
  have hm : xp_ml xm_P 127 = 9 := rfl
  exact xl_cons (xk_iload_n hc xd_127_68 rfl) <|
    xl_cons (xk_iaload hc xd_127_69) <|
    xl_cons (xk_if_icmp hc xd_127_70 (by decide)) <|
    xl_cons (xk_iconst hc xd_127_73 (by decide)) <|
    xl_cons (xk_ireturn hc xd_127_74) <|
    xl_cons (xk_aload_n hc xd_127_75 rfl) <|
    xl_cons (xk_getfield (C := xm_C3) (T := xm_T3) (N := 11) hc xd_127_76 ho rfl (by decide) xm_u3 xl_380) <|
    xl_cons (xk_iload_n hc xd_127_79 rfl) <|
    xl_cons (xk_iaload hc xd_127_80) <|
    xl_cons (xk_iconst hc xd_127_81 (by decide)) <|
    xl_cons (xk_if_icmp hc xd_127_82 (by decide)) <|
    xl_cons (xk_iconst hc xd_127_85 (by decide)) <|
    xl_cons (xk_goto hc xd_127_86 (by decide)) <|
    xl_cons (xk_iconst hc xd_127_89 (by decide)) <|
    xl_cons (xk_istore hc xd_127_90 hm rfl (by decide)) <|
    xl_cons (xk_iconst hc xd_127_92 (by decide)) <|
    xl_cons (xk_istore hc xd_127_93 hm rfl (by decide)) <|
    xl_cons (xk_iload hc xd_127_95 rfl) <|
    xl_cons (xk_aload_n hc xd_127_97 rfl) <|
    xl_cons (xk_iload_n hc xd_127_98 rfl) <|
    xl_cons (xk_callV (Y := xm_y119) ho rfl (by decide) ⟨by decide, by decide⟩ xl_17 hc xd_127_99 rfl (b' := 1) rfl xm_nd119 (T := xm_T3) (N := 11) rfl xl_397 xl_124 xl_125) <|
    xl_cons (xk_if_icmp hc xd_127_102 (by decide)) <|
    xl_cons (xk_aload_n hc xd_127_105 rfl) <|
    xl_cons (xk_iload_n hc xd_127_106 rfl) <|
    xl_cons (xk_iload hc xd_127_107 rfl) <|
    xl_cons (xk_callV (Y := xm_y120) ho rfl (by decide) ⟨by decide, by decide⟩ xl_17 hc xd_127_109 rfl (b' := 2) rfl xm_nd120 (T := xm_T3) (N := 11) rfl xl_391 xl_127 xl_128) <|
    xl_cons (xk_istore hc xd_127_112 hm rfl (by decide)) <|
    xl_cons (xk_aload_n hc xd_127_114 rfl) <|
    xl_cons (xk_iload_n hc xd_127_115 rfl) <|
    xl_cons (xk_iload hc xd_127_116 rfl) <|
    xl_cons (xk_callV (Y := xm_y120) ho rfl (by decide) ⟨by decide, by decide⟩ xl_17 hc xd_127_118 rfl (b' := 2) rfl xm_nd120 (T := xm_T3) (N := 11) rfl xl_391 xl_127 xl_128) <|
    xl_cons (xk_istore hc xd_127_121 hm rfl (by decide)) <|
    xl_cons (xk_iload hc xd_127_123 rfl) <|
    xl_cons (xk_ifCond hc xd_127_125 (by decide)) <|
    xl_cons (xk_aload hc xd_127_128 rfl) <|
    xl_cons (xk_iload hc xd_127_130 rfl) <|
    xl_cons (xk_callV (Y := xm_y109) ho rfl (by decide) ⟨by decide, by decide⟩ xl_30 hc xd_127_132 rfl (b' := 1) rfl xm_nd109 (T := xm_T5) (N := 1) rfl xl_396 xl_158 xl_159) <|
    xl_cons (xk_aload hc xd_127_135 rfl) <|
    xl_cons (xk_iload hc xd_127_137 rfl) <|
    xl_cons (xk_callV (Y := xm_y109) ho rfl (by decide) ⟨by decide, by decide⟩ xl_30 hc xd_127_139 rfl (b' := 1) rfl xm_nd109 (T := xm_T5) (N := 1) rfl xl_396 xl_158 xl_159) (xl_nil)
set_option maxRecDepth 100000 in
theorem xo_127_2 : ∀ e ∈ ([(142, 3, .if_icmp .eq 15, 157, 0, .null, [], none),
  (145, 3, .goto 10, 155, 0, .null, [], none),
  (148, 2, .iload 7, 7, 0, .null, [], none),
  (150, 2, .iload 8, 8, 0, .null, [], none),
  (152, 3, .if_icmp .eq 5, 157, 0, .null, [], none),
  (155, 1, .iconst 0, 0, 0, .int 0, [], none),
  (156, 1, .ireturn, 0, 0, .null, [], none),
  (157, 3, .iinc 6 1, 6, 0, .int 1, [], none),
  (160, 3, .goto (-65), 95, 0, .null, [], none),
  (163, 1, .iconst 1, 0, 0, .int 1, [], none),
  (164, 1, .ireturn, 0, 0, .null, [], none)] : List xr_E), xr_sd xm_P 127 e := by
  have hc : xp_cd xm_P 127 = prog_5_method_17_code := rfl
  have ho : xp_own xm_P 127 = "ExchangeText$Model" := rfl
  have hm : xp_ml xm_P 127 = 9 := rfl
  exact xl_cons (xk_if_icmp hc xd_127_142 (by decide)) <|
    xl_cons (xk_goto hc xd_127_145 (by decide)) <|
    xl_cons (xk_iload hc xd_127_148 rfl) <|
    xl_cons (xk_iload hc xd_127_150 rfl) <|
    xl_cons (xk_if_icmp hc xd_127_152 (by decide)) <|
    xl_cons (xk_iconst hc xd_127_155 (by decide)) <|
    xl_cons (xk_ireturn hc xd_127_156) <|
    xl_cons (xk_iinc hc xd_127_157 hm rfl (by decide) (by decide)) <|
    xl_cons (xk_goto hc xd_127_160 (by decide)) <|
    xl_cons (xk_iconst hc xd_127_163 (by decide)) <|
    xl_cons (xk_ireturn hc xd_127_164) (xl_nil)
theorem xo_127 : ∀ e ∈ xm_i127, xr_sd xm_P 127 e := xl_app xo_127_0 (xl_app xo_127_1 (xo_127_2))
set_option maxRecDepth 100000 in
theorem xo_128_0 : ∀ e ∈ ([(0, 1, .iconst 0, 0, 0, .int 0, [], none),
  (1, 1, .istore_n 2, 2, 0, .null, [], none),
  (2, 1, .iconst 0, 0, 0, .int 0, [], none),
  (3, 1, .istore_n 3, 3, 0, .null, [], none),
  (4, 1, .iload_n 3, 3, 0, .null, [], none),
  (5, 1, .aload_n 0, 0, 0, .null, [], none),
  (6, 3, .getfield 41, 3, 1, .null, [], none),
  (9, 3, .if_icmp .ge 56, 65, 0, .null, [], none),
  (12, 1, .aload_n 0, 0, 0, .null, [], none),
  (13, 3, .getfield 22, 3, 6, .null, [], none),
  (16, 1, .iload_n 3, 3, 0, .null, [], none),
  (17, 1, .iaload, 0, 0, .null, [], none),
  (18, 2, .istore 4, 4, 0, .null, [], none),
  (20, 1, .aload_n 1, 1, 0, .null, [], none),
  (21, 1, .aload_n 0, 0, 0, .null, [], none),
  (22, 3, .getfield 9, 3, 3, .null, [], none),
  (25, 2, .iload 4, 4, 0, .null, [], none),
  (27, 1, .iaload, 0, 0, .null, [], none),
  (28, 3, .invokevirtual 66, 109, 2, .retAddr 0, [], none),
  (31, 1, .aload_n 0, 0, 0, .null, [], none),
  (32, 3, .getfield 9, 3, 3, .null, [], none),
  (35, 2, .iload 4, 4, 0, .null, [], none),
  (37, 1, .iaload, 0, 0, .null, [], none),
  (38, 3, .if_icmp .ne 21, 59, 0, .null, [], none),
  (41, 1, .aload_n 0, 0, 0, .null, [], none),
  (42, 2, .iload 4, 4, 0, .null, [], none),
  (44, 1, .aload_n 1, 1, 0, .null, [], none),
  (45, 3, .invokevirtual 74, 129, 3, .retAddr 0, [], none),
  (48, 1, .aload_n 0, 0, 0, .null, [], none),
  (49, 3, .getfield 22, 3, 6, .null, [], none),
  (52, 1, .iload_n 2, 2, 0, .null, [], none),
  (53, 2, .iload 4, 4, 0, .null, [], none),
  (55, 1, .iastore, 0, 0, .null, [], none),
  (56, 3, .iinc 2 1, 2, 0, .int 1, [], none),
  (59, 3, .iinc 3 1, 3, 0, .int 1, [], none),
  (62, 3, .goto (-58), 4, 0, .null, [], none),
  (65, 1, .aload_n 0, 0, 0, .null, [], none),
  (66, 1, .iload_n 2, 2, 0, .null, [], none),
  (67, 3, .putfield 41, 3, 1, .null, [], none),
  (70, 1, .return_, 0, 0, .null, [], none)] : List xr_E), xr_sd xm_P 128 e := by
  have hc : xp_cd xm_P 128 = prog_5_method_18_code := rfl
  have ho : xp_own xm_P 128 = "ExchangeText$Model" := rfl
  have hm : xp_ml xm_P 128 = 5 := rfl
  exact xl_cons (xk_iconst hc xd_128_0 (by decide)) <|
    xl_cons (xk_istore_n hc xd_128_1 hm rfl (by decide)) <|
    xl_cons (xk_iconst hc xd_128_2 (by decide)) <|
    xl_cons (xk_istore_n hc xd_128_3 hm rfl (by decide)) <|
    xl_cons (xk_iload_n hc xd_128_4 rfl) <|
    xl_cons (xk_aload_n hc xd_128_5 rfl) <|
    xl_cons (xk_getfield (C := xm_C3) (T := xm_T3) (N := 11) hc xd_128_6 ho rfl (by decide) xm_u3 xl_385) <|
    xl_cons (xk_if_icmp hc xd_128_9 (by decide)) <|
    xl_cons (xk_aload_n hc xd_128_12 rfl) <|
    xl_cons (xk_getfield (C := xm_C3) (T := xm_T3) (N := 11) hc xd_128_13 ho rfl (by decide) xm_u3 xl_379) <|
    xl_cons (xk_iload_n hc xd_128_16 rfl) <|
    xl_cons (xk_iaload hc xd_128_17) <|
    xl_cons (xk_istore hc xd_128_18 hm rfl (by decide)) <|
    xl_cons (xk_aload_n hc xd_128_20 rfl) <|
    xl_cons (xk_aload_n hc xd_128_21 rfl) <|
    xl_cons (xk_getfield (C := xm_C3) (T := xm_T3) (N := 11) hc xd_128_22 ho rfl (by decide) xm_u3 xl_376) <|
    xl_cons (xk_iload hc xd_128_25 rfl) <|
    xl_cons (xk_iaload hc xd_128_27) <|
    xl_cons (xk_callV (Y := xm_y109) ho rfl (by decide) ⟨by decide, by decide⟩ xl_30 hc xd_128_28 rfl (b' := 1) rfl xm_nd109 (T := xm_T5) (N := 1) rfl xl_396 xl_158 xl_159) <|
    xl_cons (xk_aload_n hc xd_128_31 rfl) <|
    xl_cons (xk_getfield (C := xm_C3) (T := xm_T3) (N := 11) hc xd_128_32 ho rfl (by decide) xm_u3 xl_376) <|
    xl_cons (xk_iload hc xd_128_35 rfl) <|
    xl_cons (xk_iaload hc xd_128_37) <|
    xl_cons (xk_if_icmp hc xd_128_38 (by decide)) <|
    xl_cons (xk_aload_n hc xd_128_41 rfl) <|
    xl_cons (xk_iload hc xd_128_42 rfl) <|
    xl_cons (xk_aload_n hc xd_128_44 rfl) <|
    xl_cons (xk_callV (Y := xm_y129) ho rfl (by decide) ⟨by decide, by decide⟩ xl_17 hc xd_128_45 rfl (b' := 2) rfl xm_nd129 (T := xm_T3) (N := 11) rfl xl_398 xl_399 xl_400) <|
    xl_cons (xk_aload_n hc xd_128_48 rfl) <|
    xl_cons (xk_getfield (C := xm_C3) (T := xm_T3) (N := 11) hc xd_128_49 ho rfl (by decide) xm_u3 xl_379) <|
    xl_cons (xk_iload_n hc xd_128_52 rfl) <|
    xl_cons (xk_iload hc xd_128_53 rfl) <|
    xl_cons (xk_iastore hc xd_128_55) <|
    xl_cons (xk_iinc hc xd_128_56 hm rfl (by decide) (by decide)) <|
    xl_cons (xk_iinc hc xd_128_59 hm rfl (by decide) (by decide)) <|
    xl_cons (xk_goto hc xd_128_62 (by decide)) <|
    xl_cons (xk_aload_n hc xd_128_65 rfl) <|
    xl_cons (xk_iload_n hc xd_128_66 rfl) <|
    xl_cons (xk_putfield (C := xm_C3) (T := xm_T3) (N := 11) (ty := xm_ty3) hc xd_128_67 ho rfl (by decide) xm_u3 xm_tk3 rfl xm_nm3 xl_385 rfl) <|
    xl_cons (xk_return_ hc xd_128_70) (xl_nil)
theorem xo_128 : ∀ e ∈ xm_i128, xr_sd xm_P 128 e := xo_128_0
set_option maxRecDepth 100000 in
theorem xo_129_0 : ∀ e ∈ ([(0, 1, .iconst 0, 0, 0, .int 0, [], none),
  (1, 1, .istore_n 3, 3, 0, .null, [], none),
  (2, 1, .iload_n 3, 3, 0, .null, [], none),
  (3, 1, .aload_n 0, 0, 0, .null, [], none),
  (4, 3, .getfield 19, 3, 5, .null, [], none),
  (7, 1, .iload_n 1, 1, 0, .null, [], none),
  (8, 1, .iaload, 0, 0, .null, [], none),
  (9, 3, .if_icmp .ge 67, 76, 0, .null, [], none),
  (12, 1, .iload_n 1, 1, 0, .null, [], none),
  (13, 2, .bipush 8, 0, 0, .int 8, [], none),
  (15, 1, .imul, 0, 0, .null, [], none),
  (16, 1, .iload_n 3, 3, 0, .null, [], none),
  (17, 1, .iadd, 0, 0, .null, [], none),
  (18, 2, .istore 4, 4, 0, .null, [], none),
  (20, 1, .aload_n 0, 0, 0, .null, [], none),
  (21, 3, .getfield 25, 3, 7, .null, [], none),
  (24, 2, .iload 4, 4, 0, .null, [], none),
  (26, 1, .iaload, 0, 0, .null, [], none),
  (27, 1, .iconst 2, 0, 0, .int 2, [], none),
  (28, 3, .if_icmp .ne 24, 52, 0, .null, [], none),
  (31, 1, .aload_n 0, 0, 0, .null, [], none),
  (32, 3, .getfield 28, 3, 8, .null, [], none),
  (35, 2, .iload 4, 4, 0, .null, [], none),
  (37, 1, .aload_n 2, 2, 0, .null, [], none),
  (38, 1, .aload_n 0, 0, 0, .null, [], none),
  (39, 3, .getfield 28, 3, 8, .null, [], none),
  (42, 2, .iload 4, 4, 0, .null, [], none),
  (44, 1, .iaload, 0, 0, .null, [], none),
  (45, 3, .invokevirtual 66, 109, 2, .retAddr 0, [], none),
  (48, 1, .iastore, 0, 0, .null, [], none),
  (49, 3, .goto 21, 70, 0, .null, [], none),
  (52, 1, .aload_n 0, 0, 0, .null, [], none),
  (53, 3, .getfield 25, 3, 7, .null, [], none),
  (56, 2, .iload 4, 4, 0, .null, [], none),
  (58, 1, .iaload, 0, 0, .null, [], none),
  (59, 1, .iconst 4, 0, 0, .int 4, [], none),
  (60, 3, .if_icmp .ne 10, 70, 0, .null, [], none),
  (63, 1, .aload_n 0, 0, 0, .null, [], none),
  (64, 2, .iload 4, 4, 0, .null, [], none),
  (66, 1, .aload_n 2, 2, 0, .null, [], none)] : List xr_E), xr_sd xm_P 129 e := by
  have hc : xp_cd xm_P 129 = prog_5_method_19_code := rfl
  have ho : xp_own xm_P 129 = "ExchangeText$Model" := rfl
  have hm : xp_ml xm_P 129 = 5 := rfl
  exact xl_cons (xk_iconst hc xd_129_0 (by decide)) <|
    xl_cons (xk_istore_n hc xd_129_1 hm rfl (by decide)) <|
    xl_cons (xk_iload_n hc xd_129_2 rfl) <|
    xl_cons (xk_aload_n hc xd_129_3 rfl) <|
    xl_cons (xk_getfield (C := xm_C3) (T := xm_T3) (N := 11) hc xd_129_4 ho rfl (by decide) xm_u3 xl_378) <|
    xl_cons (xk_iload_n hc xd_129_7 rfl) <|
    xl_cons (xk_iaload hc xd_129_8) <|
    xl_cons (xk_if_icmp hc xd_129_9 (by decide)) <|
    xl_cons (xk_iload_n hc xd_129_12 rfl) <|
    xl_cons (xk_bipush hc xd_129_13 (by decide)) <|
    xl_cons (xk_imul hc xd_129_15) <|
    xl_cons (xk_iload_n hc xd_129_16 rfl) <|
    xl_cons (xk_iadd hc xd_129_17) <|
    xl_cons (xk_istore hc xd_129_18 hm rfl (by decide)) <|
    xl_cons (xk_aload_n hc xd_129_20 rfl) <|
    xl_cons (xk_getfield (C := xm_C3) (T := xm_T3) (N := 11) hc xd_129_21 ho rfl (by decide) xm_u3 xl_380) <|
    xl_cons (xk_iload hc xd_129_24 rfl) <|
    xl_cons (xk_iaload hc xd_129_26) <|
    xl_cons (xk_iconst hc xd_129_27 (by decide)) <|
    xl_cons (xk_if_icmp hc xd_129_28 (by decide)) <|
    xl_cons (xk_aload_n hc xd_129_31 rfl) <|
    xl_cons (xk_getfield (C := xm_C3) (T := xm_T3) (N := 11) hc xd_129_32 ho rfl (by decide) xm_u3 xl_381) <|
    xl_cons (xk_iload hc xd_129_35 rfl) <|
    xl_cons (xk_aload_n hc xd_129_37 rfl) <|
    xl_cons (xk_aload_n hc xd_129_38 rfl) <|
    xl_cons (xk_getfield (C := xm_C3) (T := xm_T3) (N := 11) hc xd_129_39 ho rfl (by decide) xm_u3 xl_381) <|
    xl_cons (xk_iload hc xd_129_42 rfl) <|
    xl_cons (xk_iaload hc xd_129_44) <|
    xl_cons (xk_callV (Y := xm_y109) ho rfl (by decide) ⟨by decide, by decide⟩ xl_30 hc xd_129_45 rfl (b' := 1) rfl xm_nd109 (T := xm_T5) (N := 1) rfl xl_396 xl_158 xl_159) <|
    xl_cons (xk_iastore hc xd_129_48) <|
    xl_cons (xk_goto hc xd_129_49 (by decide)) <|
    xl_cons (xk_aload_n hc xd_129_52 rfl) <|
    xl_cons (xk_getfield (C := xm_C3) (T := xm_T3) (N := 11) hc xd_129_53 ho rfl (by decide) xm_u3 xl_380) <|
    xl_cons (xk_iload hc xd_129_56 rfl) <|
    xl_cons (xk_iaload hc xd_129_58) <|
    xl_cons (xk_iconst hc xd_129_59 (by decide)) <|
    xl_cons (xk_if_icmp hc xd_129_60 (by decide)) <|
    xl_cons (xk_aload_n hc xd_129_63 rfl) <|
    xl_cons (xk_iload hc xd_129_64 rfl) <|
    xl_cons (xk_aload_n hc xd_129_66 rfl) (xl_nil)
set_option maxRecDepth 100000 in
theorem xo_129_1 : ∀ e ∈ ([(67, 3, .invokevirtual 78, 130, 3, .retAddr 0, [], none),
  (70, 3, .iinc 3 1, 3, 0, .int 1, [], none),
  (73, 3, .goto (-71), 2, 0, .null, [], none),
  (76, 1, .return_, 0, 0, .null, [], none)] : List xr_E), xr_sd xm_P 129 e := by
  have hc : xp_cd xm_P 129 = prog_5_method_19_code := rfl
  have ho : xp_own xm_P 129 = "ExchangeText$Model" := rfl
  have hm : xp_ml xm_P 129 = 5 := rfl
  exact xl_cons (xk_callV (Y := xm_y130) ho rfl (by decide) ⟨by decide, by decide⟩ xl_17 hc xd_129_67 rfl (b' := 2) rfl xm_nd130 (T := xm_T3) (N := 11) rfl xl_401 xl_402 xl_403) <|
    xl_cons (xk_iinc hc xd_129_70 hm rfl (by decide) (by decide)) <|
    xl_cons (xk_goto hc xd_129_73 (by decide)) <|
    xl_cons (xk_return_ hc xd_129_76) (xl_nil)
theorem xo_129 : ∀ e ∈ xm_i129, xr_sd xm_P 129 e := xl_app xo_129_0 (xo_129_1)
set_option maxRecDepth 100000 in
theorem xo_130_0 : ∀ e ∈ ([(0, 1, .aload_n 0, 0, 0, .null, [], none),
  (1, 3, .getfield 31, 3, 9, .null, [], none),
  (4, 1, .iload_n 1, 1, 0, .null, [], none),
  (5, 1, .iaload, 0, 0, .null, [], none),
  (6, 1, .istore_n 3, 3, 0, .null, [], none),
  (7, 1, .iload_n 3, 3, 0, .null, [], none),
  (8, 1, .aload_n 0, 0, 0, .null, [], none),
  (9, 3, .getfield 31, 3, 9, .null, [], none),
  (12, 1, .iload_n 1, 1, 0, .null, [], none),
  (13, 1, .iaload, 0, 0, .null, [], none),
  (14, 1, .aload_n 0, 0, 0, .null, [], none),
  (15, 3, .getfield 28, 3, 8, .null, [], none),
  (18, 1, .iload_n 1, 1, 0, .null, [], none),
  (19, 1, .iaload, 0, 0, .null, [], none),
  (20, 1, .iadd, 0, 0, .null, [], none),
  (21, 3, .if_icmp .ge 33, 54, 0, .null, [], none),
  (24, 1, .iload_n 3, 3, 0, .null, [], none),
  (25, 1, .aload_n 0, 0, 0, .null, [], none),
  (26, 3, .getfield 44, 3, 2, .null, [], none),
  (29, 3, .if_icmp .ge 25, 54, 0, .null, [], none),
  (32, 1, .aload_n 0, 0, 0, .null, [], none),
  (33, 3, .getfield 34, 3, 10, .null, [], none),
  (36, 1, .iload_n 3, 3, 0, .null, [], none),
  (37, 1, .aload_n 2, 2, 0, .null, [], none),
  (38, 1, .aload_n 0, 0, 0, .null, [], none),
  (39, 3, .getfield 34, 3, 10, .null, [], none),
  (42, 1, .iload_n 3, 3, 0, .null, [], none),
  (43, 1, .iaload, 0, 0, .null, [], none),
  (44, 3, .invokevirtual 66, 109, 2, .retAddr 0, [], none),
  (47, 1, .iastore, 0, 0, .null, [], none),
  (48, 3, .iinc 3 1, 3, 0, .int 1, [], none),
  (51, 3, .goto (-44), 7, 0, .null, [], none),
  (54, 1, .return_, 0, 0, .null, [], none)] : List xr_E), xr_sd xm_P 130 e := by
  have hc : xp_cd xm_P 130 = prog_5_method_20_code := rfl
  have ho : xp_own xm_P 130 = "ExchangeText$Model" := rfl
  have hm : xp_ml xm_P 130 = 4 := rfl
  exact xl_cons (xk_aload_n hc xd_130_0 rfl) <|
    xl_cons (xk_getfield (C := xm_C3) (T := xm_T3) (N := 11) hc xd_130_1 ho rfl (by decide) xm_u3 xl_382) <|
    xl_cons (xk_iload_n hc xd_130_4 rfl) <|
    xl_cons (xk_iaload hc xd_130_5) <|
    xl_cons (xk_istore_n hc xd_130_6 hm rfl (by decide)) <|
    xl_cons (xk_iload_n hc xd_130_7 rfl) <|
    xl_cons (xk_aload_n hc xd_130_8 rfl) <|
    xl_cons (xk_getfield (C := xm_C3) (T := xm_T3) (N := 11) hc xd_130_9 ho rfl (by decide) xm_u3 xl_382) <|
    xl_cons (xk_iload_n hc xd_130_12 rfl) <|
    xl_cons (xk_iaload hc xd_130_13) <|
    xl_cons (xk_aload_n hc xd_130_14 rfl) <|
    xl_cons (xk_getfield (C := xm_C3) (T := xm_T3) (N := 11) hc xd_130_15 ho rfl (by decide) xm_u3 xl_381) <|
    xl_cons (xk_iload_n hc xd_130_18 rfl) <|
    xl_cons (xk_iaload hc xd_130_19) <|
    xl_cons (xk_iadd hc xd_130_20) <|
    xl_cons (xk_if_icmp hc xd_130_21 (by decide)) <|
    xl_cons (xk_iload_n hc xd_130_24 rfl) <|
    xl_cons (xk_aload_n hc xd_130_25 rfl) <|
    xl_cons (xk_getfield (C := xm_C3) (T := xm_T3) (N := 11) hc xd_130_26 ho rfl (by decide) xm_u3 xl_386) <|
    xl_cons (xk_if_icmp hc xd_130_29 (by decide)) <|
    xl_cons (xk_aload_n hc xd_130_32 rfl) <|
    xl_cons (xk_getfield (C := xm_C3) (T := xm_T3) (N := 11) hc xd_130_33 ho rfl (by decide) xm_u3 xl_383) <|
    xl_cons (xk_iload_n hc xd_130_36 rfl) <|
    xl_cons (xk_aload_n hc xd_130_37 rfl) <|
    xl_cons (xk_aload_n hc xd_130_38 rfl) <|
    xl_cons (xk_getfield (C := xm_C3) (T := xm_T3) (N := 11) hc xd_130_39 ho rfl (by decide) xm_u3 xl_383) <|
    xl_cons (xk_iload_n hc xd_130_42 rfl) <|
    xl_cons (xk_iaload hc xd_130_43) <|
    xl_cons (xk_callV (Y := xm_y109) ho rfl (by decide) ⟨by decide, by decide⟩ xl_30 hc xd_130_44 rfl (b' := 1) rfl xm_nd109 (T := xm_T5) (N := 1) rfl xl_396 xl_158 xl_159) <|
    xl_cons (xk_iastore hc xd_130_47) <|
    xl_cons (xk_iinc hc xd_130_48 hm rfl (by decide) (by decide)) <|
    xl_cons (xk_goto hc xd_130_51 (by decide)) <|
    xl_cons (xk_return_ hc xd_130_54) (xl_nil)
theorem xo_130 : ∀ e ∈ xm_i130, xr_sd xm_P 130 e := xo_130_0
set_option maxRecDepth 100000 in
theorem xo_131_0 : ∀ e ∈ ([(0, 1, .aload_n 0, 0, 0, .null, [], none),
  (1, 1, .aload_n 1, 1, 0, .null, [], none),
  (2, 3, .getfield 37, 3, 0, .null, [], none),
  (5, 3, .putfield 37, 3, 0, .null, [], none),
  (8, 1, .aload_n 0, 0, 0, .null, [], none),
  (9, 1, .aload_n 1, 1, 0, .null, [], none),
  (10, 3, .getfield 41, 3, 1, .null, [], none),
  (13, 3, .putfield 41, 3, 1, .null, [], none),
  (16, 1, .aload_n 0, 0, 0, .null, [], none),
  (17, 1, .aload_n 1, 1, 0, .null, [], none),
  (18, 3, .getfield 44, 3, 2, .null, [], none),
  (21, 3, .putfield 44, 3, 2, .null, [], none),
  (24, 1, .aload_n 1, 1, 0, .null, [], none),
  (25, 3, .getfield 37, 3, 0, .null, [], none),
  (28, 2, .bipush 8, 0, 0, .int 8, [], none),
  (30, 1, .imul, 0, 0, .null, [], none),
  (31, 1, .istore_n 2, 2, 0, .null, [], none),
  (32, 1, .aload_n 1, 1, 0, .null, [], none),
  (33, 3, .getfield 9, 3, 3, .null, [], none),
  (36, 1, .iconst 0, 0, 0, .int 0, [], none),
  (37, 1, .aload_n 0, 0, 0, .null, [], none),
  (38, 3, .getfield 9, 3, 3, .null, [], none),
  (41, 1, .iconst 0, 0, 0, .int 0, [], none),
  (42, 1, .aload_n 0, 0, 0, .null, [], none),
  (43, 3, .getfield 37, 3, 0, .null, [], none),
  (46, 3, .invokestatic 81, 0, 0, .int 3, [], none),
  (49, 1, .aload_n 1, 1, 0, .null, [], none),
  (50, 3, .getfield 15, 3, 4, .null, [], none),
  (53, 1, .iconst 0, 0, 0, .int 0, [], none),
  (54, 1, .aload_n 0, 0, 0, .null, [], none),
  (55, 3, .getfield 15, 3, 4, .null, [], none),
  (58, 1, .iconst 0, 0, 0, .int 0, [], none),
  (59, 1, .aload_n 0, 0, 0, .null, [], none),
  (60, 3, .getfield 37, 3, 0, .null, [], none),
  (63, 3, .invokestatic 81, 0, 0, .int 3, [], none),
  (66, 1, .aload_n 1, 1, 0, .null, [], none),
  (67, 3, .getfield 19, 3, 5, .null, [], none),
  (70, 1, .iconst 0, 0, 0, .int 0, [], none),
  (71, 1, .aload_n 0, 0, 0, .null, [], none),
  (72, 3, .getfield 19, 3, 5, .null, [], none)] : List xr_E), xr_sd xm_P 131 e := by
  have hc : xp_cd xm_P 131 = prog_5_method_21_code := rfl
  have ho : xp_own xm_P 131 = "ExchangeText$Model" := rfl
  have hm : xp_ml xm_P 131 = 3 := rfl
  exact xl_cons (xk_aload_n hc xd_131_0 rfl) <|
    xl_cons (xk_aload_n hc xd_131_1 rfl) <|
    xl_cons (xk_getfield (C := xm_C3) (T := xm_T3) (N := 11) hc xd_131_2 ho rfl (by decide) xm_u3 xl_384) <|
    xl_cons (xk_putfield (C := xm_C3) (T := xm_T3) (N := 11) (ty := xm_ty3) hc xd_131_5 ho rfl (by decide) xm_u3 xm_tk3 rfl xm_nm3 xl_384 rfl) <|
    xl_cons (xk_aload_n hc xd_131_8 rfl) <|
    xl_cons (xk_aload_n hc xd_131_9 rfl) <|
    xl_cons (xk_getfield (C := xm_C3) (T := xm_T3) (N := 11) hc xd_131_10 ho rfl (by decide) xm_u3 xl_385) <|
    xl_cons (xk_putfield (C := xm_C3) (T := xm_T3) (N := 11) (ty := xm_ty3) hc xd_131_13 ho rfl (by decide) xm_u3 xm_tk3 rfl xm_nm3 xl_385 rfl) <|
    xl_cons (xk_aload_n hc xd_131_16 rfl) <|
    xl_cons (xk_aload_n hc xd_131_17 rfl) <|
    xl_cons (xk_getfield (C := xm_C3) (T := xm_T3) (N := 11) hc xd_131_18 ho rfl (by decide) xm_u3 xl_386) <|
    xl_cons (xk_putfield (C := xm_C3) (T := xm_T3) (N := 11) (ty := xm_ty3) hc xd_131_21 ho rfl (by decide) xm_u3 xm_tk3 rfl xm_nm3 xl_386 rfl) <|
    xl_cons (xk_aload_n hc xd_131_24 rfl) <|
    xl_cons (xk_getfield (C := xm_C3) (T := xm_T3) (N := 11) hc xd_131_25 ho rfl (by decide) xm_u3 xl_384) <|
    xl_cons (xk_bipush hc xd_131_28 (by decide)) <|
    xl_cons (xk_imul hc xd_131_30) <|
    xl_cons (xk_istore_n hc xd_131_31 hm rfl (by decide)) <|
    xl_cons (xk_aload_n hc xd_131_32 rfl) <|
    xl_cons (xk_getfield (C := xm_C3) (T := xm_T3) (N := 11) hc xd_131_33 ho rfl (by decide) xm_u3 xl_376) <|
    xl_cons (xk_iconst hc xd_131_36 (by decide)) <|
    xl_cons (xk_aload_n hc xd_131_37 rfl) <|
    xl_cons (xk_getfield (C := xm_C3) (T := xm_T3) (N := 11) hc xd_131_38 ho rfl (by decide) xm_u3 xl_376) <|
    xl_cons (xk_iconst hc xd_131_41 (by decide)) <|
    xl_cons (xk_aload_n hc xd_131_42 rfl) <|
    xl_cons (xk_getfield (C := xm_C3) (T := xm_T3) (N := 11) hc xd_131_43 ho rfl (by decide) xm_u3 xl_384) <|
    xl_cons (xk_copy hc xd_131_46 ho xm_rl131 xl_404 xl_370 xl_371 xl_372) <|
    xl_cons (xk_aload_n hc xd_131_49 rfl) <|
    xl_cons (xk_getfield (C := xm_C3) (T := xm_T3) (N := 11) hc xd_131_50 ho rfl (by decide) xm_u3 xl_377) <|
    xl_cons (xk_iconst hc xd_131_53 (by decide)) <|
    xl_cons (xk_aload_n hc xd_131_54 rfl) <|
    xl_cons (xk_getfield (C := xm_C3) (T := xm_T3) (N := 11) hc xd_131_55 ho rfl (by decide) xm_u3 xl_377) <|
    xl_cons (xk_iconst hc xd_131_58 (by decide)) <|
    xl_cons (xk_aload_n hc xd_131_59 rfl) <|
    xl_cons (xk_getfield (C := xm_C3) (T := xm_T3) (N := 11) hc xd_131_60 ho rfl (by decide) xm_u3 xl_384) <|
    xl_cons (xk_copy hc xd_131_63 ho xm_rl131 xl_404 xl_370 xl_371 xl_372) <|
    xl_cons (xk_aload_n hc xd_131_66 rfl) <|
    xl_cons (xk_getfield (C := xm_C3) (T := xm_T3) (N := 11) hc xd_131_67 ho rfl (by decide) xm_u3 xl_378) <|
    xl_cons (xk_iconst hc xd_131_70 (by decide)) <|
    xl_cons (xk_aload_n hc xd_131_71 rfl) <|
    xl_cons (xk_getfield (C := xm_C3) (T := xm_T3) (N := 11) hc xd_131_72 ho rfl (by decide) xm_u3 xl_378) (xl_nil)
set_option maxRecDepth 100000 in
theorem xo_131_1 : ∀ e ∈ ([(75, 1, .iconst 0, 0, 0, .int 0, [], none),
  (76, 1, .aload_n 0, 0, 0, .null, [], none),
  (77, 3, .getfield 37, 3, 0, .null, [], none),
  (80, 3, .invokestatic 81, 0, 0, .int 3, [], none),
  (83, 1, .aload_n 1, 1, 0, .null, [], none),
  (84, 3, .getfield 22, 3, 6, .null, [], none),
  (87, 1, .iconst 0, 0, 0, .int 0, [], none),
  (88, 1, .aload_n 0, 0, 0, .null, [], none),
  (89, 3, .getfield 22, 3, 6, .null, [], none),
  (92, 1, .iconst 0, 0, 0, .int 0, [], none),
  (93, 1, .aload_n 0, 0, 0, .null, [], none),
  (94, 3, .getfield 41, 3, 1, .null, [], none),
  (97, 3, .invokestatic 81, 0, 0, .int 3, [], none),
  (100, 1, .aload_n 1, 1, 0, .null, [], none),
  (101, 3, .getfield 25, 3, 7, .null, [], none),
  (104, 1, .iconst 0, 0, 0, .int 0, [], none),
  (105, 1, .aload_n 0, 0, 0, .null, [], none),
  (106, 3, .getfield 25, 3, 7, .null, [], none),
  (109, 1, .iconst 0, 0, 0, .int 0, [], none),
  (110, 1, .iload_n 2, 2, 0, .null, [], none),
  (111, 3, .invokestatic 81, 0, 0, .int 3, [], none),
  (114, 1, .aload_n 1, 1, 0, .null, [], none),
  (115, 3, .getfield 28, 3, 8, .null, [], none),
  (118, 1, .iconst 0, 0, 0, .int 0, [], none),
  (119, 1, .aload_n 0, 0, 0, .null, [], none),
  (120, 3, .getfield 28, 3, 8, .null, [], none),
  (123, 1, .iconst 0, 0, 0, .int 0, [], none),
  (124, 1, .iload_n 2, 2, 0, .null, [], none),
  (125, 3, .invokestatic 81, 0, 0, .int 3, [], none),
  (128, 1, .aload_n 1, 1, 0, .null, [], none),
  (129, 3, .getfield 31, 3, 9, .null, [], none),
  (132, 1, .iconst 0, 0, 0, .int 0, [], none),
  (133, 1, .aload_n 0, 0, 0, .null, [], none),
  (134, 3, .getfield 31, 3, 9, .null, [], none),
  (137, 1, .iconst 0, 0, 0, .int 0, [], none),
  (138, 1, .iload_n 2, 2, 0, .null, [], none),
  (139, 3, .invokestatic 81, 0, 0, .int 3, [], none),
  (142, 1, .aload_n 1, 1, 0, .null, [], none),
  (143, 3, .getfield 34, 3, 10, .null, [], none),
  (146, 1, .iconst 0, 0, 0, .int 0, [], none)] : List xr_E), xr_sd xm_P 131 e := by
  have hc : xp_cd xm_P 131 = prog_5_method_21_code := rfl
  have ho : xp_own xm_P 131 = "ExchangeText$Model" := rfl
  have hm : xp_ml xm_P 131 = 3 := rfl
  exact xl_cons (xk_iconst hc xd_131_75 (by decide)) <|
    xl_cons (xk_aload_n hc xd_131_76 rfl) <|
    xl_cons (xk_getfield (C := xm_C3) (T := xm_T3) (N := 11) hc xd_131_77 ho rfl (by decide) xm_u3 xl_384) <|
    xl_cons (xk_copy hc xd_131_80 ho xm_rl131 xl_404 xl_370 xl_371 xl_372) <|
    xl_cons (xk_aload_n hc xd_131_83 rfl) <|
    xl_cons (xk_getfield (C := xm_C3) (T := xm_T3) (N := 11) hc xd_131_84 ho rfl (by decide) xm_u3 xl_379) <|
    xl_cons (xk_iconst hc xd_131_87 (by decide)) <|
    xl_cons (xk_aload_n hc xd_131_88 rfl) <|
    xl_cons (xk_getfield (C := xm_C3) (T := xm_T3) (N := 11) hc xd_131_89 ho rfl (by decide) xm_u3 xl_379) <|
    xl_cons (xk_iconst hc xd_131_92 (by decide)) <|
    xl_cons (xk_aload_n hc xd_131_93 rfl) <|
    xl_cons (xk_getfield (C := xm_C3) (T := xm_T3) (N := 11) hc xd_131_94 ho rfl (by decide) xm_u3 xl_385) <|
    xl_cons (xk_copy hc xd_131_97 ho xm_rl131 xl_404 xl_370 xl_371 xl_372) <|
    xl_cons (xk_aload_n hc xd_131_100 rfl) <|
    xl_cons (xk_getfield (C := xm_C3) (T := xm_T3) (N := 11) hc xd_131_101 ho rfl (by decide) xm_u3 xl_380) <|
    xl_cons (xk_iconst hc xd_131_104 (by decide)) <|
    xl_cons (xk_aload_n hc xd_131_105 rfl) <|
    xl_cons (xk_getfield (C := xm_C3) (T := xm_T3) (N := 11) hc xd_131_106 ho rfl (by decide) xm_u3 xl_380) <|
    xl_cons (xk_iconst hc xd_131_109 (by decide)) <|
    xl_cons (xk_iload_n hc xd_131_110 rfl) <|
    xl_cons (xk_copy hc xd_131_111 ho xm_rl131 xl_404 xl_370 xl_371 xl_372) <|
    xl_cons (xk_aload_n hc xd_131_114 rfl) <|
    xl_cons (xk_getfield (C := xm_C3) (T := xm_T3) (N := 11) hc xd_131_115 ho rfl (by decide) xm_u3 xl_381) <|
    xl_cons (xk_iconst hc xd_131_118 (by decide)) <|
    xl_cons (xk_aload_n hc xd_131_119 rfl) <|
    xl_cons (xk_getfield (C := xm_C3) (T := xm_T3) (N := 11) hc xd_131_120 ho rfl (by decide) xm_u3 xl_381) <|
    xl_cons (xk_iconst hc xd_131_123 (by decide)) <|
    xl_cons (xk_iload_n hc xd_131_124 rfl) <|
    xl_cons (xk_copy hc xd_131_125 ho xm_rl131 xl_404 xl_370 xl_371 xl_372) <|
    xl_cons (xk_aload_n hc xd_131_128 rfl) <|
    xl_cons (xk_getfield (C := xm_C3) (T := xm_T3) (N := 11) hc xd_131_129 ho rfl (by decide) xm_u3 xl_382) <|
    xl_cons (xk_iconst hc xd_131_132 (by decide)) <|
    xl_cons (xk_aload_n hc xd_131_133 rfl) <|
    xl_cons (xk_getfield (C := xm_C3) (T := xm_T3) (N := 11) hc xd_131_134 ho rfl (by decide) xm_u3 xl_382) <|
    xl_cons (xk_iconst hc xd_131_137 (by decide)) <|
    xl_cons (xk_iload_n hc xd_131_138 rfl) <|
    xl_cons (xk_copy hc xd_131_139 ho xm_rl131 xl_404 xl_370 xl_371 xl_372) <|
    xl_cons (xk_aload_n hc xd_131_142 rfl) <|
    xl_cons (xk_getfield (C := xm_C3) (T := xm_T3) (N := 11) hc xd_131_143 ho rfl (by decide) xm_u3 xl_383) <|
    xl_cons (xk_iconst hc xd_131_146 (by decide)) (xl_nil)
set_option maxRecDepth 100000 in
theorem xo_131_2 : ∀ e ∈ ([(147, 1, .aload_n 0, 0, 0, .null, [], none),
  (148, 3, .getfield 34, 3, 10, .null, [], none),
  (151, 1, .iconst 0, 0, 0, .int 0, [], none),
  (152, 1, .aload_n 0, 0, 0, .null, [], none),
  (153, 3, .getfield 44, 3, 2, .null, [], none),
  (156, 3, .invokestatic 81, 0, 0, .int 3, [], none),
  (159, 1, .return_, 0, 0, .null, [], none)] : List xr_E), xr_sd xm_P 131 e := by
  have hc : xp_cd xm_P 131 = prog_5_method_21_code := rfl
  have ho : xp_own xm_P 131 = "ExchangeText$Model" := rfl
  have hm : xp_ml xm_P 131 = 3 := rfl
  exact xl_cons (xk_aload_n hc xd_131_147 rfl) <|
    xl_cons (xk_getfield (C := xm_C3) (T := xm_T3) (N := 11) hc xd_131_148 ho rfl (by decide) xm_u3 xl_383) <|
    xl_cons (xk_iconst hc xd_131_151 (by decide)) <|
    xl_cons (xk_aload_n hc xd_131_152 rfl) <|
    xl_cons (xk_getfield (C := xm_C3) (T := xm_T3) (N := 11) hc xd_131_153 ho rfl (by decide) xm_u3 xl_386) <|
    xl_cons (xk_copy hc xd_131_156 ho xm_rl131 xl_404 xl_370 xl_371 xl_372) <|
    xl_cons (xk_return_ hc xd_131_159) (xl_nil)
theorem xo_131 : ∀ e ∈ xm_i131, xr_sd xm_P 131 e := xl_app xo_131_0 (xl_app xo_131_1 (xo_131_2))
set_option maxRecDepth 100000 in
theorem xo_132_0 : ∀ e ∈ ([(0, 1, .aload_n 0, 0, 0, .null, [], none),
  (1, 3, .invokespecial 3, 0, 0, .int 1, [], none),
  (4, 1, .aload_n 0, 0, 0, .null, [], none),
  (5, 1, .aload_n 1, 1, 0, .null, [], none),
  (6, 3, .putfield 9, 8, 0, .null, [], none),
  (9, 1, .aload_n 0, 0, 0, .null, [], none),
  (10, 1, .aload_n 2, 2, 0, .null, [], none),
  (11, 3, .putfield 15, 8, 1, .null, [], none),
  (14, 1, .return_, 0, 0, .null, [], none)] : List xr_E), xr_sd xm_P 132 e := by
  have hc : xp_cd xm_P 132 = prog_6_method_1_code := rfl
  have ho : xp_own xm_P 132 = "ExchangeText$ModelReader" := rfl
  have hm : xp_ml xm_P 132 = 3 := rfl
  exact xl_cons (xk_aload_n hc xd_132_0 rfl) <|
    xl_cons (xk_objInit hc xd_132_1 ho xm_rl132 xl_405 xl_1 xl_2) <|
    xl_cons (xk_aload_n hc xd_132_4 rfl) <|
    xl_cons (xk_aload_n hc xd_132_5 rfl) <|
    xl_cons (xk_putfieldF (C := xm_C8) (T := xm_T8) (N := 2) (ty := xm_ty8) hc xd_132_6 ho rfl (by decide) xm_u8 xm_tk8 rfl xm_nm8 xl_406 rfl rfl rfl) <|
    xl_cons (xk_aload_n hc xd_132_9 rfl) <|
    xl_cons (xk_aload_n hc xd_132_10 rfl) <|
    xl_cons (xk_putfieldF (C := xm_C8) (T := xm_T8) (N := 2) (ty := xm_ty8) hc xd_132_11 ho rfl (by decide) xm_u8 xm_tk8 rfl xm_nm8 xl_407 rfl rfl rfl) <|
    xl_cons (xk_return_ hc xd_132_14) (xl_nil)
theorem xo_132 : ∀ e ∈ xm_i132, xr_sd xm_P 132 e := xo_132_0
set_option maxRecDepth 100000 in
theorem xo_133_0 : ∀ e ∈ ([(0, 1, .aload_n 0, 0, 0, .null, [], none),
  (1, 3, .getfield 15, 8, 1, .null, [], none),
  (4, 3, .invokevirtual 19, 112, 1, .retAddr 0, [], none),
  (7, 1, .aload_n 0, 0, 0, .null, [], none),
  (8, 3, .getfield 9, 8, 0, .null, [], none),
  (11, 1, .iconst 0, 0, 0, .int 0, [], none),
  (12, 3, .invokevirtual 24, 150, 2, .retAddr 0, [], none),
  (15, 1, .iconst 0, 0, 0, .int 0, [], none),
  (16, 1, .istore_n 1, 1, 0, .null, [], none),
  (17, 1, .iload_n 1, 1, 0, .null, [], none),
  (18, 2, .bipush 40, 0, 0, .int 40, [], none),
  (20, 3, .if_icmp .gt 47, 67, 0, .null, [], none),
  (23, 1, .aload_n 0, 0, 0, .null, [], none),
  (24, 3, .getfield 9, 8, 0, .null, [], none),
  (27, 3, .invokevirtual 30, 154, 1, .retAddr 0, [], none),
  (30, 3, .ifCond .eq 37, 67, 0, .null, [], none),
  (33, 1, .aload_n 0, 0, 0, .null, [], none),
  (34, 3, .invokevirtual 34, 134, 1, .retAddr 0, [], none),
  (37, 3, .ifCond .eq 22, 59, 0, .null, [], none),
  (40, 1, .aload_n 0, 0, 0, .null, [], none),
  (41, 3, .invokevirtual 37, 135, 1, .retAddr 0, [], none),
  (44, 3, .ifCond .eq 15, 59, 0, .null, [], none),
  (47, 1, .aload_n 0, 0, 0, .null, [], none),
  (48, 3, .getfield 9, 8, 0, .null, [], none),
  (51, 2, .bipush 59, 0, 0, .int 59, [], none),
  (53, 3, .invokevirtual 40, 158, 2, .retAddr 0, [], none),
  (56, 3, .ifCond .ne 5, 61, 0, .null, [], none),
  (59, 1, .iconst 0, 0, 0, .int 0, [], none),
  (60, 1, .ireturn, 0, 0, .null, [], none),
  (61, 3, .iinc 1 1, 1, 0, .int 1, [], none),
  (64, 3, .goto (-47), 17, 0, .null, [], none),
  (67, 1, .iconst 1, 0, 0, .int 1, [], none),
  (68, 1, .ireturn, 0, 0, .null, [], none)] : List xr_E), xr_sd xm_P 133 e := by
  have hc : xp_cd xm_P 133 = prog_6_method_2_code := rfl
  have ho : xp_own xm_P 133 = "ExchangeText$ModelReader" := rfl
  have hm : xp_ml xm_P 133 = 2 := rfl
  exact xl_cons (xk_aload_n hc xd_133_0 rfl) <|
    xl_cons (xk_getfield (C := xm_C8) (T := xm_T8) (N := 2) hc xd_133_1 ho rfl (by decide) xm_u8 xl_407) <|
    xl_cons (xk_callV (Y := xm_y112) ho rfl (by decide) ⟨by decide, by decide⟩ xl_17 hc xd_133_4 rfl (b' := 0) rfl xm_nd112 (T := xm_T3) (N := 11) rfl xl_408 xl_409 xl_410) <|
    xl_cons (xk_aload_n hc xd_133_7 rfl) <|
    xl_cons (xk_getfield (C := xm_C8) (T := xm_T8) (N := 2) hc xd_133_8 ho rfl (by decide) xm_u8 xl_406) <|
    xl_cons (xk_iconst hc xd_133_11 (by decide)) <|
    xl_cons (xk_callV (Y := xm_y150) ho rfl (by decide) ⟨by decide, by decide⟩ xl_36 hc xd_133_12 rfl (b' := 1) rfl xm_nd150 (T := xm_T6) (N := 7) rfl xl_411 xl_412 xl_413) <|
    xl_cons (xk_iconst hc xd_133_15 (by decide)) <|
    xl_cons (xk_istore_n hc xd_133_16 hm rfl (by decide)) <|
    xl_cons (xk_iload_n hc xd_133_17 rfl) <|
    xl_cons (xk_bipush hc xd_133_18 (by decide)) <|
    xl_cons (xk_if_icmp hc xd_133_20 (by decide)) <|
    xl_cons (xk_aload_n hc xd_133_23 rfl) <|
    xl_cons (xk_getfield (C := xm_C8) (T := xm_T8) (N := 2) hc xd_133_24 ho rfl (by decide) xm_u8 xl_406) <|
    xl_cons (xk_callV (Y := xm_y154) ho rfl (by decide) ⟨by decide, by decide⟩ xl_36 hc xd_133_27 rfl (b' := 0) rfl xm_nd154 (T := xm_T6) (N := 7) rfl xl_414 xl_415 xl_416) <|
    xl_cons (xk_ifCond hc xd_133_30 (by decide)) <|
    xl_cons (xk_aload_n hc xd_133_33 rfl) <|
    xl_cons (xk_callV (Y := xm_y134) ho rfl (by decide) ⟨by decide, by decide⟩ xl_47 hc xd_133_34 rfl (b' := 0) rfl xm_nd134 (T := xm_T8) (N := 2) rfl xl_417 xl_418 xl_419) <|
    xl_cons (xk_ifCond hc xd_133_37 (by decide)) <|
    xl_cons (xk_aload_n hc xd_133_40 rfl) <|
    xl_cons (xk_callV (Y := xm_y135) ho rfl (by decide) ⟨by decide, by decide⟩ xl_47 hc xd_133_41 rfl (b' := 0) rfl xm_nd135 (T := xm_T8) (N := 2) rfl xl_420 xl_421 xl_422) <|
    xl_cons (xk_ifCond hc xd_133_44 (by decide)) <|
    xl_cons (xk_aload_n hc xd_133_47 rfl) <|
    xl_cons (xk_getfield (C := xm_C8) (T := xm_T8) (N := 2) hc xd_133_48 ho rfl (by decide) xm_u8 xl_406) <|
    xl_cons (xk_bipush hc xd_133_51 (by decide)) <|
    xl_cons (xk_callV (Y := xm_y158) ho rfl (by decide) ⟨by decide, by decide⟩ xl_36 hc xd_133_53 rfl (b' := 1) rfl xm_nd158 (T := xm_T6) (N := 7) rfl xl_423 xl_424 xl_425) <|
    xl_cons (xk_ifCond hc xd_133_56 (by decide)) <|
    xl_cons (xk_iconst hc xd_133_59 (by decide)) <|
    xl_cons (xk_ireturn hc xd_133_60) <|
    xl_cons (xk_iinc hc xd_133_61 hm rfl (by decide) (by decide)) <|
    xl_cons (xk_goto hc xd_133_64 (by decide)) <|
    xl_cons (xk_iconst hc xd_133_67 (by decide)) <|
    xl_cons (xk_ireturn hc xd_133_68) (xl_nil)
theorem xo_133 : ∀ e ∈ xm_i133, xr_sd xm_P 133 e := xo_133_0
set_option maxRecDepth 100000 in
theorem xo_134_0 : ∀ e ∈ ([(0, 1, .aload_n 0, 0, 0, .null, [], none),
  (1, 3, .getfield 15, 8, 1, .null, [], none),
  (4, 3, .getfield 44, 3, 0, .null, [], none),
  (7, 2, .bipush 40, 0, 0, .int 40, [], none),
  (9, 3, .if_icmp .ge 15, 24, 0, .null, [], none),
  (12, 1, .aload_n 0, 0, 0, .null, [], none),
  (13, 3, .getfield 9, 8, 0, .null, [], none),
  (16, 2, .bipush 35, 0, 0, .int 35, [], none),
  (18, 3, .invokevirtual 40, 158, 2, .retAddr 0, [], none),
  (21, 3, .ifCond .ne 5, 26, 0, .null, [], none),
  (24, 1, .iconst 0, 0, 0, .int 0, [], none),
  (25, 1, .ireturn, 0, 0, .null, [], none),
  (26, 1, .aload_n 0, 0, 0, .null, [], none),
  (27, 3, .getfield 9, 8, 0, .null, [], none),
  (30, 3, .invokevirtual 48, 161, 1, .retAddr 0, [], none),
  (33, 1, .istore_n 1, 1, 0, .null, [], none),
  (34, 1, .iload_n 1, 1, 0, .null, [], none),
  (35, 1, .iconst (-1), 0, 0, .int (-1), [], none),
  (36, 3, .if_icmp .eq 15, 51, 0, .null, [], none),
  (39, 1, .aload_n 0, 0, 0, .null, [], none),
  (40, 3, .getfield 15, 8, 1, .null, [], none),
  (43, 1, .iload_n 1, 1, 0, .null, [], none),
  (44, 3, .invokevirtual 52, 114, 2, .retAddr 0, [], none),
  (47, 1, .iconst (-1), 0, 0, .int (-1), [], none),
  (48, 3, .if_icmp .eq 5, 53, 0, .null, [], none),
  (51, 1, .iconst 0, 0, 0, .int 0, [], none),
  (52, 1, .ireturn, 0, 0, .null, [], none),
  (53, 1, .aload_n 0, 0, 0, .null, [], none),
  (54, 3, .getfield 9, 8, 0, .null, [], none),
  (57, 3, .invokevirtual 56, 157, 1, .retAddr 0, [], none),
  (60, 1, .aload_n 0, 0, 0, .null, [], none),
  (61, 3, .getfield 9, 8, 0, .null, [], none),
  (64, 2, .bipush 61, 0, 0, .int 61, [], none),
  (66, 3, .invokevirtual 40, 158, 2, .retAddr 0, [], none),
  (69, 3, .ifCond .ne 5, 74, 0, .null, [], none),
  (72, 1, .iconst 0, 0, 0, .int 0, [], none),
  (73, 1, .ireturn, 0, 0, .null, [], none),
  (74, 1, .aload_n 0, 0, 0, .null, [], none),
  (75, 3, .getfield 9, 8, 0, .null, [], none),
  (78, 3, .invokevirtual 59, 159, 1, .retAddr 0, [], none)] : List xr_E), xr_sd xm_P 134 e := by
  have hc : xp_cd xm_P 134 = prog_6_method_3_code := rfl
  have ho : xp_own xm_P 134 = "ExchangeText$ModelReader" := rfl
  have hm : xp_ml xm_P 134 = 4 := rfl
  exact xl_cons (xk_aload_n hc xd_134_0 rfl) <|
    xl_cons (xk_getfield (C := xm_C8) (T := xm_T8) (N := 2) hc xd_134_1 ho rfl (by decide) xm_u8 xl_407) <|
    xl_cons (xk_getfield (C := xm_C3) (T := xm_T3) (N := 11) hc xd_134_4 ho rfl (by decide) xm_u3 xl_426) <|
    xl_cons (xk_bipush hc xd_134_7 (by decide)) <|
    xl_cons (xk_if_icmp hc xd_134_9 (by decide)) <|
    xl_cons (xk_aload_n hc xd_134_12 rfl) <|
    xl_cons (xk_getfield (C := xm_C8) (T := xm_T8) (N := 2) hc xd_134_13 ho rfl (by decide) xm_u8 xl_406) <|
    xl_cons (xk_bipush hc xd_134_16 (by decide)) <|
    xl_cons (xk_callV (Y := xm_y158) ho rfl (by decide) ⟨by decide, by decide⟩ xl_36 hc xd_134_18 rfl (b' := 1) rfl xm_nd158 (T := xm_T6) (N := 7) rfl xl_423 xl_424 xl_425) <|
    xl_cons (xk_ifCond hc xd_134_21 (by decide)) <|
    xl_cons (xk_iconst hc xd_134_24 (by decide)) <|
    xl_cons (xk_ireturn hc xd_134_25) <|
    xl_cons (xk_aload_n hc xd_134_26 rfl) <|
    xl_cons (xk_getfield (C := xm_C8) (T := xm_T8) (N := 2) hc xd_134_27 ho rfl (by decide) xm_u8 xl_406) <|
    xl_cons (xk_callV (Y := xm_y161) ho rfl (by decide) ⟨by decide, by decide⟩ xl_36 hc xd_134_30 rfl (b' := 0) rfl xm_nd161 (T := xm_T6) (N := 7) rfl xl_427 xl_428 xl_429) <|
    xl_cons (xk_istore_n hc xd_134_33 hm rfl (by decide)) <|
    xl_cons (xk_iload_n hc xd_134_34 rfl) <|
    xl_cons (xk_iconst hc xd_134_35 (by decide)) <|
    xl_cons (xk_if_icmp hc xd_134_36 (by decide)) <|
    xl_cons (xk_aload_n hc xd_134_39 rfl) <|
    xl_cons (xk_getfield (C := xm_C8) (T := xm_T8) (N := 2) hc xd_134_40 ho rfl (by decide) xm_u8 xl_407) <|
    xl_cons (xk_iload_n hc xd_134_43 rfl) <|
    xl_cons (xk_callV (Y := xm_y114) ho rfl (by decide) ⟨by decide, by decide⟩ xl_17 hc xd_134_44 rfl (b' := 1) rfl xm_nd114 (T := xm_T3) (N := 11) rfl xl_430 xl_167 xl_168) <|
    xl_cons (xk_iconst hc xd_134_47 (by decide)) <|
    xl_cons (xk_if_icmp hc xd_134_48 (by decide)) <|
    xl_cons (xk_iconst hc xd_134_51 (by decide)) <|
    xl_cons (xk_ireturn hc xd_134_52) <|
    xl_cons (xk_aload_n hc xd_134_53 rfl) <|
    xl_cons (xk_getfield (C := xm_C8) (T := xm_T8) (N := 2) hc xd_134_54 ho rfl (by decide) xm_u8 xl_406) <|
    xl_cons (xk_callV (Y := xm_y157) ho rfl (by decide) ⟨by decide, by decide⟩ xl_36 hc xd_134_57 rfl (b' := 0) rfl xm_nd157 (T := xm_T6) (N := 7) rfl xl_431 xl_432 xl_433) <|
    xl_cons (xk_aload_n hc xd_134_60 rfl) <|
    xl_cons (xk_getfield (C := xm_C8) (T := xm_T8) (N := 2) hc xd_134_61 ho rfl (by decide) xm_u8 xl_406) <|
    xl_cons (xk_bipush hc xd_134_64 (by decide)) <|
    xl_cons (xk_callV (Y := xm_y158) ho rfl (by decide) ⟨by decide, by decide⟩ xl_36 hc xd_134_66 rfl (b' := 1) rfl xm_nd158 (T := xm_T6) (N := 7) rfl xl_423 xl_424 xl_425) <|
    xl_cons (xk_ifCond hc xd_134_69 (by decide)) <|
    xl_cons (xk_iconst hc xd_134_72 (by decide)) <|
    xl_cons (xk_ireturn hc xd_134_73) <|
    xl_cons (xk_aload_n hc xd_134_74 rfl) <|
    xl_cons (xk_getfield (C := xm_C8) (T := xm_T8) (N := 2) hc xd_134_75 ho rfl (by decide) xm_u8 xl_406) <|
    xl_cons (xk_callV (Y := xm_y159) ho rfl (by decide) ⟨by decide, by decide⟩ xl_36 hc xd_134_78 rfl (b' := 0) rfl xm_nd159 (T := xm_T6) (N := 7) rfl xl_434 xl_435 xl_436) (xl_nil)
set_option maxRecDepth 100000 in
theorem xo_134_1 : ∀ e ∈ ([(81, 1, .lstore_n 2, 2, 0, .null, [], none),
  (82, 1, .lload_n 2, 2, 0, .null, [], none),
  (83, 1, .lconst 0, 0, 0, .long 0, [], none),
  (84, 1, .lcmp, 0, 0, .null, [], none),
  (85, 3, .ifCond .ne 5, 90, 0, .null, [], none),
  (88, 1, .iconst 0, 0, 0, .int 0, [], none),
  (89, 1, .ireturn, 0, 0, .null, [], none),
  (90, 1, .aload_n 0, 0, 0, .null, [], none),
  (91, 3, .getfield 9, 8, 0, .null, [], none),
  (94, 3, .invokevirtual 56, 157, 1, .retAddr 0, [], none),
  (97, 1, .aload_n 0, 0, 0, .null, [], none),
  (98, 3, .getfield 15, 8, 1, .null, [], none),
  (101, 1, .iload_n 1, 1, 0, .null, [], none),
  (102, 1, .lload_n 2, 2, 0, .null, [], none),
  (103, 3, .invokevirtual 63, 115, 3, .retAddr 0, [], none),
  (106, 1, .aload_n 0, 0, 0, .null, [], none),
  (107, 3, .getfield 9, 8, 0, .null, [], none),
  (110, 2, .bipush 40, 0, 0, .int 40, [], none),
  (112, 3, .invokevirtual 40, 158, 2, .retAddr 0, [], none),
  (115, 1, .ireturn, 0, 0, .null, [], none)] : List xr_E), xr_sd xm_P 134 e := by
  have hc : xp_cd xm_P 134 = prog_6_method_3_code := rfl
  have ho : xp_own xm_P 134 = "ExchangeText$ModelReader" := rfl
  have hm : xp_ml xm_P 134 = 4 := rfl
  exact xl_cons (xk_lstore_n hc xd_134_81 hm rfl (by decide)) <|
    xl_cons (xk_lload_n hc xd_134_82 rfl) <|
    xl_cons (xk_lconst hc xd_134_83 rfl) <|
    xl_cons (xk_lcmp hc xd_134_84) <|
    xl_cons (xk_ifCond hc xd_134_85 (by decide)) <|
    xl_cons (xk_iconst hc xd_134_88 (by decide)) <|
    xl_cons (xk_ireturn hc xd_134_89) <|
    xl_cons (xk_aload_n hc xd_134_90 rfl) <|
    xl_cons (xk_getfield (C := xm_C8) (T := xm_T8) (N := 2) hc xd_134_91 ho rfl (by decide) xm_u8 xl_406) <|
    xl_cons (xk_callV (Y := xm_y157) ho rfl (by decide) ⟨by decide, by decide⟩ xl_36 hc xd_134_94 rfl (b' := 0) rfl xm_nd157 (T := xm_T6) (N := 7) rfl xl_431 xl_432 xl_433) <|
    xl_cons (xk_aload_n hc xd_134_97 rfl) <|
    xl_cons (xk_getfield (C := xm_C8) (T := xm_T8) (N := 2) hc xd_134_98 ho rfl (by decide) xm_u8 xl_407) <|
    xl_cons (xk_iload_n hc xd_134_101 rfl) <|
    xl_cons (xk_lload_n hc xd_134_102 rfl) <|
    xl_cons (xk_callV (Y := xm_y115) ho rfl (by decide) ⟨by decide, by decide⟩ xl_17 hc xd_134_103 rfl (b' := 2) rfl xm_nd115 (T := xm_T3) (N := 11) rfl xl_437 xl_438 xl_439) <|
    xl_cons (xk_aload_n hc xd_134_106 rfl) <|
    xl_cons (xk_getfield (C := xm_C8) (T := xm_T8) (N := 2) hc xd_134_107 ho rfl (by decide) xm_u8 xl_406) <|
    xl_cons (xk_bipush hc xd_134_110 (by decide)) <|
    xl_cons (xk_callV (Y := xm_y158) ho rfl (by decide) ⟨by decide, by decide⟩ xl_36 hc xd_134_112 rfl (b' := 1) rfl xm_nd158 (T := xm_T6) (N := 7) rfl xl_423 xl_424 xl_425) <|
    xl_cons (xk_ireturn hc xd_134_115) (xl_nil)
theorem xo_134 : ∀ e ∈ xm_i134, xr_sd xm_P 134 e := xl_app xo_134_0 (xo_134_1)
set_option maxRecDepth 100000 in
theorem xo_135_0 : ∀ e ∈ ([(0, 1, .iconst 0, 0, 0, .int 0, [], none),
  (1, 1, .istore_n 1, 1, 0, .null, [], none),
  (2, 1, .iload_n 1, 1, 0, .null, [], none),
  (3, 2, .bipush 8, 0, 0, .int 8, [], none),
  (5, 3, .if_icmp .ge 60, 65, 0, .null, [], none),
  (8, 1, .aload_n 0, 0, 0, .null, [], none),
  (9, 3, .getfield 15, 8, 1, .null, [], none),
  (12, 3, .invokevirtual 67, 116, 1, .retAddr 0, [], none),
  (15, 1, .istore_n 2, 2, 0, .null, [], none),
  (16, 1, .iload_n 2, 2, 0, .null, [], none),
  (17, 1, .iconst (-1), 0, 0, .int (-1), [], none),
  (18, 3, .if_icmp .eq 11, 29, 0, .null, [], none),
  (21, 1, .aload_n 0, 0, 0, .null, [], none),
  (22, 1, .iload_n 2, 2, 0, .null, [], none),
  (23, 3, .invokevirtual 70, 136, 2, .retAddr 0, [], none),
  (26, 3, .ifCond .ne 5, 31, 0, .null, [], none),
  (29, 1, .iconst 0, 0, 0, .int 0, [], none),
  (30, 1, .ireturn, 0, 0, .null, [], none),
  (31, 1, .aload_n 0, 0, 0, .null, [], none),
  (32, 3, .getfield 9, 8, 0, .null, [], none),
  (35, 2, .bipush 41, 0, 0, .int 41, [], none),
  (37, 3, .invokevirtual 40, 158, 2, .retAddr 0, [], none),
  (40, 3, .ifCond .eq 5, 45, 0, .null, [], none),
  (43, 1, .iconst 1, 0, 0, .int 1, [], none),
  (44, 1, .ireturn, 0, 0, .null, [], none),
  (45, 1, .aload_n 0, 0, 0, .null, [], none),
  (46, 3, .getfield 9, 8, 0, .null, [], none),
  (49, 2, .bipush 44, 0, 0, .int 44, [], none),
  (51, 3, .invokevirtual 40, 158, 2, .retAddr 0, [], none),
  (54, 3, .ifCond .ne 5, 59, 0, .null, [], none),
  (57, 1, .iconst 0, 0, 0, .int 0, [], none),
  (58, 1, .ireturn, 0, 0, .null, [], none),
  (59, 3, .iinc 1 1, 1, 0, .int 1, [], none),
  (62, 3, .goto (-60), 2, 0, .null, [], none),
  (65, 1, .iconst 0, 0, 0, .int 0, [], none),
  (66, 1, .ireturn, 0, 0, .null, [], none)] : List xr_E), xr_sd xm_P 135 e := by
  have hc : xp_cd xm_P 135 = prog_6_method_4_code := rfl
  have ho : xp_own xm_P 135 = "ExchangeText$ModelReader" := rfl
  have hm : xp_ml xm_P 135 = 3 := rfl
  exact xl_cons (xk_iconst hc xd_135_0 (by decide)) <|
    xl_cons (xk_istore_n hc xd_135_1 hm rfl (by decide)) <|
    xl_cons (xk_iload_n hc xd_135_2 rfl) <|
    xl_cons (xk_bipush hc xd_135_3 (by decide)) <|
    xl_cons (xk_if_icmp hc xd_135_5 (by decide)) <|
    xl_cons (xk_aload_n hc xd_135_8 rfl) <|
    xl_cons (xk_getfield (C := xm_C8) (T := xm_T8) (N := 2) hc xd_135_9 ho rfl (by decide) xm_u8 xl_407) <|
    xl_cons (xk_callV (Y := xm_y116) ho rfl (by decide) ⟨by decide, by decide⟩ xl_17 hc xd_135_12 rfl (b' := 0) rfl xm_nd116 (T := xm_T3) (N := 11) rfl xl_440 xl_441 xl_442) <|
    xl_cons (xk_istore_n hc xd_135_15 hm rfl (by decide)) <|
    xl_cons (xk_iload_n hc xd_135_16 rfl) <|
    xl_cons (xk_iconst hc xd_135_17 (by decide)) <|
    xl_cons (xk_if_icmp hc xd_135_18 (by decide)) <|
    xl_cons (xk_aload_n hc xd_135_21 rfl) <|
    xl_cons (xk_iload_n hc xd_135_22 rfl) <|
    xl_cons (xk_callV (Y := xm_y136) ho rfl (by decide) ⟨by decide, by decide⟩ xl_47 hc xd_135_23 rfl (b' := 1) rfl xm_nd136 (T := xm_T8) (N := 2) rfl xl_443 xl_444 xl_445) <|
    xl_cons (xk_ifCond hc xd_135_26 (by decide)) <|
    xl_cons (xk_iconst hc xd_135_29 (by decide)) <|
    xl_cons (xk_ireturn hc xd_135_30) <|
    xl_cons (xk_aload_n hc xd_135_31 rfl) <|
    xl_cons (xk_getfield (C := xm_C8) (T := xm_T8) (N := 2) hc xd_135_32 ho rfl (by decide) xm_u8 xl_406) <|
    xl_cons (xk_bipush hc xd_135_35 (by decide)) <|
    xl_cons (xk_callV (Y := xm_y158) ho rfl (by decide) ⟨by decide, by decide⟩ xl_36 hc xd_135_37 rfl (b' := 1) rfl xm_nd158 (T := xm_T6) (N := 7) rfl xl_423 xl_424 xl_425) <|
    xl_cons (xk_ifCond hc xd_135_40 (by decide)) <|
    xl_cons (xk_iconst hc xd_135_43 (by decide)) <|
    xl_cons (xk_ireturn hc xd_135_44) <|
    xl_cons (xk_aload_n hc xd_135_45 rfl) <|
    xl_cons (xk_getfield (C := xm_C8) (T := xm_T8) (N := 2) hc xd_135_46 ho rfl (by decide) xm_u8 xl_406) <|
    xl_cons (xk_bipush hc xd_135_49 (by decide)) <|
    xl_cons (xk_callV (Y := xm_y158) ho rfl (by decide) ⟨by decide, by decide⟩ xl_36 hc xd_135_51 rfl (b' := 1) rfl xm_nd158 (T := xm_T6) (N := 7) rfl xl_423 xl_424 xl_425) <|
    xl_cons (xk_ifCond hc xd_135_54 (by decide)) <|
    xl_cons (xk_iconst hc xd_135_57 (by decide)) <|
    xl_cons (xk_ireturn hc xd_135_58) <|
    xl_cons (xk_iinc hc xd_135_59 hm rfl (by decide) (by decide)) <|
    xl_cons (xk_goto hc xd_135_62 (by decide)) <|
    xl_cons (xk_iconst hc xd_135_65 (by decide)) <|
    xl_cons (xk_ireturn hc xd_135_66) (xl_nil)
theorem xo_135 : ∀ e ∈ xm_i135, xr_sd xm_P 135 e := xo_135_0
set_option maxRecDepth 100000 in
theorem xo_136_0 : ∀ e ∈ ([(0, 1, .aload_n 0, 0, 0, .null, [], none),
  (1, 3, .getfield 9, 8, 0, .null, [], none),
  (4, 3, .invokevirtual 74, 156, 1, .retAddr 0, [], none),
  (7, 1, .istore_n 2, 2, 0, .null, [], none),
  (8, 1, .iload_n 2, 2, 0, .null, [], none),
  (9, 2, .bipush 36, 0, 0, .int 36, [], none),
  (11, 3, .if_icmp .ne 23, 34, 0, .null, [], none),
  (14, 1, .aload_n 0, 0, 0, .null, [], none),
  (15, 3, .getfield 9, 8, 0, .null, [], none),
  (18, 3, .invokevirtual 56, 157, 1, .retAddr 0, [], none),
  (21, 1, .aload_n 0, 0, 0, .null, [], none),
  (22, 3, .getfield 15, 8, 1, .null, [], none),
  (25, 1, .iload_n 1, 1, 0, .null, [], none),
  (26, 2, .bipush 6, 0, 0, .int 6, [], none),
  (28, 1, .iconst 0, 0, 0, .int 0, [], none),
  (29, 3, .invokevirtual 78, 117, 4, .retAddr 0, [], none),
  (32, 1, .iconst 1, 0, 0, .int 1, [], none),
  (33, 1, .ireturn, 0, 0, .null, [], none),
  (34, 1, .iload_n 2, 2, 0, .null, [], none),
  (35, 2, .bipush 39, 0, 0, .int 39, [], none),
  (37, 3, .if_icmp .ne 9, 46, 0, .null, [], none),
  (40, 1, .aload_n 0, 0, 0, .null, [], none),
  (41, 1, .iload_n 1, 1, 0, .null, [], none),
  (42, 3, .invokevirtual 82, 137, 2, .retAddr 0, [], none),
  (45, 1, .ireturn, 0, 0, .null, [], none),
  (46, 1, .iload_n 2, 2, 0, .null, [], none),
  (47, 2, .bipush 46, 0, 0, .int 46, [], none),
  (49, 3, .if_icmp .ne 9, 58, 0, .null, [], none),
  (52, 1, .aload_n 0, 0, 0, .null, [], none),
  (53, 1, .iload_n 1, 1, 0, .null, [], none),
  (54, 3, .invokevirtual 85, 138, 2, .retAddr 0, [], none),
  (57, 1, .ireturn, 0, 0, .null, [], none),
  (58, 1, .iload_n 2, 2, 0, .null, [], none),
  (59, 2, .bipush 40, 0, 0, .int 40, [], none),
  (61, 3, .if_icmp .ne 9, 70, 0, .null, [], none),
  (64, 1, .aload_n 0, 0, 0, .null, [], none),
  (65, 1, .iload_n 1, 1, 0, .null, [], none),
  (66, 3, .invokevirtual 88, 139, 2, .retAddr 0, [], none),
  (69, 1, .ireturn, 0, 0, .null, [], none),
  (70, 1, .iload_n 2, 2, 0, .null, [], none)] : List xr_E), xr_sd xm_P 136 e := by
  have hc : xp_cd xm_P 136 = prog_6_method_5_code := rfl
  have ho : xp_own xm_P 136 = "ExchangeText$ModelReader" := rfl
  have hm : xp_ml xm_P 136 = 5 := rfl
  exact xl_cons (xk_aload_n hc xd_136_0 rfl) <|
    xl_cons (xk_getfield (C := xm_C8) (T := xm_T8) (N := 2) hc xd_136_1 ho rfl (by decide) xm_u8 xl_406) <|
    xl_cons (xk_callV (Y := xm_y156) ho rfl (by decide) ⟨by decide, by decide⟩ xl_36 hc xd_136_4 rfl (b' := 0) rfl xm_nd156 (T := xm_T6) (N := 7) rfl xl_446 xl_447 xl_448) <|
    xl_cons (xk_istore_n hc xd_136_7 hm rfl (by decide)) <|
    xl_cons (xk_iload_n hc xd_136_8 rfl) <|
    xl_cons (xk_bipush hc xd_136_9 (by decide)) <|
    xl_cons (xk_if_icmp hc xd_136_11 (by decide)) <|
    xl_cons (xk_aload_n hc xd_136_14 rfl) <|
    xl_cons (xk_getfield (C := xm_C8) (T := xm_T8) (N := 2) hc xd_136_15 ho rfl (by decide) xm_u8 xl_406) <|
    xl_cons (xk_callV (Y := xm_y157) ho rfl (by decide) ⟨by decide, by decide⟩ xl_36 hc xd_136_18 rfl (b' := 0) rfl xm_nd157 (T := xm_T6) (N := 7) rfl xl_431 xl_432 xl_433) <|
    xl_cons (xk_aload_n hc xd_136_21 rfl) <|
    xl_cons (xk_getfield (C := xm_C8) (T := xm_T8) (N := 2) hc xd_136_22 ho rfl (by decide) xm_u8 xl_407) <|
    xl_cons (xk_iload_n hc xd_136_25 rfl) <|
    xl_cons (xk_bipush hc xd_136_26 (by decide)) <|
    xl_cons (xk_iconst hc xd_136_28 (by decide)) <|
    xl_cons (xk_callV (Y := xm_y117) ho rfl (by decide) ⟨by decide, by decide⟩ xl_17 hc xd_136_29 rfl (b' := 3) rfl xm_nd117 (T := xm_T3) (N := 11) rfl xl_449 xl_450 xl_451) <|
    xl_cons (xk_iconst hc xd_136_32 (by decide)) <|
    xl_cons (xk_ireturn hc xd_136_33) <|
    xl_cons (xk_iload_n hc xd_136_34 rfl) <|
    xl_cons (xk_bipush hc xd_136_35 (by decide)) <|
    xl_cons (xk_if_icmp hc xd_136_37 (by decide)) <|
    xl_cons (xk_aload_n hc xd_136_40 rfl) <|
    xl_cons (xk_iload_n hc xd_136_41 rfl) <|
    xl_cons (xk_callV (Y := xm_y137) ho rfl (by decide) ⟨by decide, by decide⟩ xl_47 hc xd_136_42 rfl (b' := 1) rfl xm_nd137 (T := xm_T8) (N := 2) rfl xl_452 xl_453 xl_454) <|
    xl_cons (xk_ireturn hc xd_136_45) <|
    xl_cons (xk_iload_n hc xd_136_46 rfl) <|
    xl_cons (xk_bipush hc xd_136_47 (by decide)) <|
    xl_cons (xk_if_icmp hc xd_136_49 (by decide)) <|
    xl_cons (xk_aload_n hc xd_136_52 rfl) <|
    xl_cons (xk_iload_n hc xd_136_53 rfl) <|
    xl_cons (xk_callV (Y := xm_y138) ho rfl (by decide) ⟨by decide, by decide⟩ xl_47 hc xd_136_54 rfl (b' := 1) rfl xm_nd138 (T := xm_T8) (N := 2) rfl xl_455 xl_456 xl_457) <|
    xl_cons (xk_ireturn hc xd_136_57) <|
    xl_cons (xk_iload_n hc xd_136_58 rfl) <|
    xl_cons (xk_bipush hc xd_136_59 (by decide)) <|
    xl_cons (xk_if_icmp hc xd_136_61 (by decide)) <|
    xl_cons (xk_aload_n hc xd_136_64 rfl) <|
    xl_cons (xk_iload_n hc xd_136_65 rfl) <|
    xl_cons (xk_callV (Y := xm_y139) ho rfl (by decide) ⟨by decide, by decide⟩ xl_47 hc xd_136_66 rfl (b' := 1) rfl xm_nd139 (T := xm_T8) (N := 2) rfl xl_458 xl_459 xl_460) <|
    xl_cons (xk_ireturn hc xd_136_69) <|
    xl_cons (xk_iload_n hc xd_136_70 rfl) (xl_nil)
set_option maxRecDepth 100000 in
theorem xo_136_1 : ∀ e ∈ ([(71, 2, .bipush 35, 0, 0, .int 35, [], none),
  (73, 3, .if_icmp .ne 7, 80, 0, .null, [], none),
  (76, 1, .iconst 1, 0, 0, .int 1, [], none),
  (77, 3, .goto 4, 81, 0, .null, [], none),
  (80, 1, .iconst 0, 0, 0, .int 0, [], none),
  (81, 1, .istore_n 3, 3, 0, .null, [], none),
  (82, 1, .iload_n 3, 3, 0, .null, [], none),
  (83, 3, .ifCond .eq 13, 96, 0, .null, [], none),
  (86, 1, .aload_n 0, 0, 0, .null, [], none),
  (87, 3, .getfield 9, 8, 0, .null, [], none),
  (90, 3, .invokevirtual 91, 162, 1, .retAddr 0, [], none),
  (93, 3, .goto 10, 103, 0, .null, [], none),
  (96, 1, .aload_n 0, 0, 0, .null, [], none),
  (97, 3, .getfield 9, 8, 0, .null, [], none),
  (100, 3, .invokevirtual 94, 160, 1, .retAddr 0, [], none),
  (103, 2, .istore 4, 4, 0, .null, [], none),
  (105, 1, .aload_n 0, 0, 0, .null, [], none),
  (106, 3, .getfield 15, 8, 1, .null, [], none),
  (109, 1, .iload_n 1, 1, 0, .null, [], none),
  (110, 1, .iload_n 3, 3, 0, .null, [], none),
  (111, 3, .ifCond .eq 7, 118, 0, .null, [], none),
  (114, 1, .iconst 2, 0, 0, .int 2, [], none),
  (115, 3, .goto 4, 119, 0, .null, [], none),
  (118, 1, .iconst 0, 0, 0, .int 0, [], none),
  (119, 2, .iload 4, 4, 0, .null, [], none),
  (121, 3, .invokevirtual 78, 117, 4, .retAddr 0, [], none),
  (124, 2, .iload 4, 4, 0, .null, [], none),
  (126, 2, .ldc 97, 0, 0, .int (-2000000000), [], none),
  (128, 3, .if_icmp .eq 7, 135, 0, .null, [], none),
  (131, 1, .iconst 1, 0, 0, .int 1, [], none),
  (132, 3, .goto 4, 136, 0, .null, [], none),
  (135, 1, .iconst 0, 0, 0, .int 0, [], none),
  (136, 1, .ireturn, 0, 0, .null, [], none)] : List xr_E), xr_sd xm_P 136 e := by
  have hc : xp_cd xm_P 136 = prog_6_method_5_code := rfl
  have ho : xp_own xm_P 136 = "ExchangeText$ModelReader" := rfl
  have hm : xp_ml xm_P 136 = 5 := rfl
  exact xl_cons (xk_bipush hc xd_136_71 (by decide)) <|
    xl_cons (xk_if_icmp hc xd_136_73 (by decide)) <|
    xl_cons (xk_iconst hc xd_136_76 (by decide)) <|
    xl_cons (xk_goto hc xd_136_77 (by decide)) <|
    xl_cons (xk_iconst hc xd_136_80 (by decide)) <|
    xl_cons (xk_istore_n hc xd_136_81 hm rfl (by decide)) <|
    xl_cons (xk_iload_n hc xd_136_82 rfl) <|
    xl_cons (xk_ifCond hc xd_136_83 (by decide)) <|
    xl_cons (xk_aload_n hc xd_136_86 rfl) <|
    xl_cons (xk_getfield (C := xm_C8) (T := xm_T8) (N := 2) hc xd_136_87 ho rfl (by decide) xm_u8 xl_406) <|
    xl_cons (xk_callV (Y := xm_y162) ho rfl (by decide) ⟨by decide, by decide⟩ xl_36 hc xd_136_90 rfl (b' := 0) rfl xm_nd162 (T := xm_T6) (N := 7) rfl xl_461 xl_462 xl_463) <|
    xl_cons (xk_goto hc xd_136_93 (by decide)) <|
    xl_cons (xk_aload_n hc xd_136_96 rfl) <|
    xl_cons (xk_getfield (C := xm_C8) (T := xm_T8) (N := 2) hc xd_136_97 ho rfl (by decide) xm_u8 xl_406) <|
    xl_cons (xk_callV (Y := xm_y160) ho rfl (by decide) ⟨by decide, by decide⟩ xl_36 hc xd_136_100 rfl (b' := 0) rfl xm_nd160 (T := xm_T6) (N := 7) rfl xl_464 xl_465 xl_466) <|
    xl_cons (xk_istore hc xd_136_103 hm rfl (by decide)) <|
    xl_cons (xk_aload_n hc xd_136_105 rfl) <|
    xl_cons (xk_getfield (C := xm_C8) (T := xm_T8) (N := 2) hc xd_136_106 ho rfl (by decide) xm_u8 xl_407) <|
    xl_cons (xk_iload_n hc xd_136_109 rfl) <|
    xl_cons (xk_iload_n hc xd_136_110 rfl) <|
    xl_cons (xk_ifCond hc xd_136_111 (by decide)) <|
    xl_cons (xk_iconst hc xd_136_114 (by decide)) <|
    xl_cons (xk_goto hc xd_136_115 (by decide)) <|
    xl_cons (xk_iconst hc xd_136_118 (by decide)) <|
    xl_cons (xk_iload hc xd_136_119 rfl) <|
    xl_cons (xk_callV (Y := xm_y117) ho rfl (by decide) ⟨by decide, by decide⟩ xl_17 hc xd_136_121 rfl (b' := 3) rfl xm_nd117 (T := xm_T3) (N := 11) rfl xl_449 xl_450 xl_451) <|
    xl_cons (xk_iload hc xd_136_124 rfl) <|
    xl_cons (xk_ldc hc xd_136_126 ho rfl xl_467) <|
    xl_cons (xk_if_icmp hc xd_136_128 (by decide)) <|
    xl_cons (xk_iconst hc xd_136_131 (by decide)) <|
    xl_cons (xk_goto hc xd_136_132 (by decide)) <|
    xl_cons (xk_iconst hc xd_136_135 (by decide)) <|
    xl_cons (xk_ireturn hc xd_136_136) (xl_nil)
theorem xo_136 : ∀ e ∈ xm_i136, xr_sd xm_P 136 e := xl_app xo_136_0 (xo_136_1)
set_option maxRecDepth 100000 in
theorem xo_137_0 : ∀ e ∈ ([(0, 1, .aload_n 0, 0, 0, .null, [], none),
  (1, 3, .getfield 9, 8, 0, .null, [], none),
  (4, 3, .invokevirtual 98, 163, 1, .retAddr 0, [], none),
  (7, 1, .istore_n 2, 2, 0, .null, [], none),
  (8, 1, .iload_n 2, 2, 0, .null, [], none),
  (9, 1, .iconst (-1), 0, 0, .int (-1), [], none),
  (10, 3, .if_icmp .eq 9, 19, 0, .null, [], none),
  (13, 1, .iload_n 2, 2, 0, .null, [], none),
  (14, 2, .bipush 20, 0, 0, .int 20, [], none),
  (16, 3, .if_icmp .le 5, 21, 0, .null, [], none),
  (19, 1, .iconst 0, 0, 0, .int 0, [], none),
  (20, 1, .ireturn, 0, 0, .null, [], none),
  (21, 1, .aload_n 0, 0, 0, .null, [], none),
  (22, 3, .getfield 15, 8, 1, .null, [], none),
  (25, 1, .iload_n 1, 1, 0, .null, [], none),
  (26, 1, .iconst 1, 0, 0, .int 1, [], none),
  (27, 1, .iconst 0, 0, 0, .int 0, [], none),
  (28, 3, .invokevirtual 78, 117, 4, .retAddr 0, [], none),
  (31, 1, .aload_n 0, 0, 0, .null, [], none),
  (32, 3, .getfield 9, 8, 0, .null, [], none),
  (35, 1, .aload_n 0, 0, 0, .null, [], none),
  (36, 3, .getfield 15, 8, 1, .null, [], none),
  (39, 1, .iload_n 1, 1, 0, .null, [], none),
  (40, 3, .invokevirtual 101, 164, 3, .retAddr 0, [], none),
  (43, 1, .iconst 1, 0, 0, .int 1, [], none),
  (44, 1, .ireturn, 0, 0, .null, [], none)] : List xr_E), xr_sd xm_P 137 e := by
  have hc : xp_cd xm_P 137 = prog_6_method_6_code := rfl
  have ho : xp_own xm_P 137 = "ExchangeText$ModelReader" := rfl
  have hm : xp_ml xm_P 137 = 3 := rfl
  exact xl_cons (xk_aload_n hc xd_137_0 rfl) <|
    xl_cons (xk_getfield (C := xm_C8) (T := xm_T8) (N := 2) hc xd_137_1 ho rfl (by decide) xm_u8 xl_406) <|
    xl_cons (xk_callV (Y := xm_y163) ho rfl (by decide) ⟨by decide, by decide⟩ xl_36 hc xd_137_4 rfl (b' := 0) rfl xm_nd163 (T := xm_T6) (N := 7) rfl xl_468 xl_469 xl_470) <|
    xl_cons (xk_istore_n hc xd_137_7 hm rfl (by decide)) <|
    xl_cons (xk_iload_n hc xd_137_8 rfl) <|
    xl_cons (xk_iconst hc xd_137_9 (by decide)) <|
    xl_cons (xk_if_icmp hc xd_137_10 (by decide)) <|
    xl_cons (xk_iload_n hc xd_137_13 rfl) <|
    xl_cons (xk_bipush hc xd_137_14 (by decide)) <|
    xl_cons (xk_if_icmp hc xd_137_16 (by decide)) <|
    xl_cons (xk_iconst hc xd_137_19 (by decide)) <|
    xl_cons (xk_ireturn hc xd_137_20) <|
    xl_cons (xk_aload_n hc xd_137_21 rfl) <|
    xl_cons (xk_getfield (C := xm_C8) (T := xm_T8) (N := 2) hc xd_137_22 ho rfl (by decide) xm_u8 xl_407) <|
    xl_cons (xk_iload_n hc xd_137_25 rfl) <|
    xl_cons (xk_iconst hc xd_137_26 (by decide)) <|
    xl_cons (xk_iconst hc xd_137_27 (by decide)) <|
    xl_cons (xk_callV (Y := xm_y117) ho rfl (by decide) ⟨by decide, by decide⟩ xl_17 hc xd_137_28 rfl (b' := 3) rfl xm_nd117 (T := xm_T3) (N := 11) rfl xl_449 xl_450 xl_451) <|
    xl_cons (xk_aload_n hc xd_137_31 rfl) <|
    xl_cons (xk_getfield (C := xm_C8) (T := xm_T8) (N := 2) hc xd_137_32 ho rfl (by decide) xm_u8 xl_406) <|
    xl_cons (xk_aload_n hc xd_137_35 rfl) <|
    xl_cons (xk_getfield (C := xm_C8) (T := xm_T8) (N := 2) hc xd_137_36 ho rfl (by decide) xm_u8 xl_407) <|
    xl_cons (xk_iload_n hc xd_137_39 rfl) <|
    xl_cons (xk_callV (Y := xm_y164) ho rfl (by decide) ⟨by decide, by decide⟩ xl_36 hc xd_137_40 rfl (b' := 2) rfl xm_nd164 (T := xm_T6) (N := 7) rfl xl_471 xl_472 xl_473) <|
    xl_cons (xk_iconst hc xd_137_43 (by decide)) <|
    xl_cons (xk_ireturn hc xd_137_44) (xl_nil)
theorem xo_137 : ∀ e ∈ xm_i137, xr_sd xm_P 137 e := xo_137_0
set_option maxRecDepth 100000 in
theorem xo_138_0 : ∀ e ∈ ([(0, 1, .aload_n 0, 0, 0, .null, [], none),
  (1, 3, .getfield 9, 8, 0, .null, [], none),
  (4, 2, .bipush 46, 0, 0, .int 46, [], none),
  (6, 3, .invokevirtual 40, 158, 2, .retAddr 0, [], none),
  (9, 3, .ifCond .eq 15, 24, 0, .null, [], none),
  (12, 1, .aload_n 0, 0, 0, .null, [], none),
  (13, 3, .getfield 9, 8, 0, .null, [], none),
  (16, 3, .invokevirtual 59, 159, 1, .retAddr 0, [], none),
  (19, 1, .lconst 0, 0, 0, .long 0, [], none),
  (20, 1, .lcmp, 0, 0, .null, [], none),
  (21, 3, .ifCond .ne 5, 26, 0, .null, [], none),
  (24, 1, .iconst 0, 0, 0, .int 0, [], none),
  (25, 1, .ireturn, 0, 0, .null, [], none),
  (26, 1, .aload_n 0, 0, 0, .null, [], none),
  (27, 3, .getfield 15, 8, 1, .null, [], none),
  (30, 1, .iload_n 1, 1, 0, .null, [], none),
  (31, 1, .iconst 5, 0, 0, .int 5, [], none),
  (32, 1, .iconst 0, 0, 0, .int 0, [], none),
  (33, 3, .invokevirtual 78, 117, 4, .retAddr 0, [], none),
  (36, 1, .aload_n 0, 0, 0, .null, [], none),
  (37, 3, .getfield 9, 8, 0, .null, [], none),
  (40, 1, .aload_n 0, 0, 0, .null, [], none),
  (41, 3, .getfield 15, 8, 1, .null, [], none),
  (44, 1, .iload_n 1, 1, 0, .null, [], none),
  (45, 3, .invokevirtual 105, 165, 3, .retAddr 0, [], none),
  (48, 1, .aload_n 0, 0, 0, .null, [], none),
  (49, 3, .getfield 9, 8, 0, .null, [], none),
  (52, 2, .bipush 46, 0, 0, .int 46, [], none),
  (54, 3, .invokevirtual 40, 158, 2, .retAddr 0, [], none),
  (57, 1, .ireturn, 0, 0, .null, [], none)] : List xr_E), xr_sd xm_P 138 e := by
  have hc : xp_cd xm_P 138 = prog_6_method_7_code := rfl
  have ho : xp_own xm_P 138 = "ExchangeText$ModelReader" := rfl
  have hm : xp_ml xm_P 138 = 2 := rfl
  exact xl_cons (xk_aload_n hc xd_138_0 rfl) <|
    xl_cons (xk_getfield (C := xm_C8) (T := xm_T8) (N := 2) hc xd_138_1 ho rfl (by decide) xm_u8 xl_406) <|
    xl_cons (xk_bipush hc xd_138_4 (by decide)) <|
    xl_cons (xk_callV (Y := xm_y158) ho rfl (by decide) ⟨by decide, by decide⟩ xl_36 hc xd_138_6 rfl (b' := 1) rfl xm_nd158 (T := xm_T6) (N := 7) rfl xl_423 xl_424 xl_425) <|
    xl_cons (xk_ifCond hc xd_138_9 (by decide)) <|
    xl_cons (xk_aload_n hc xd_138_12 rfl) <|
    xl_cons (xk_getfield (C := xm_C8) (T := xm_T8) (N := 2) hc xd_138_13 ho rfl (by decide) xm_u8 xl_406) <|
    xl_cons (xk_callV (Y := xm_y159) ho rfl (by decide) ⟨by decide, by decide⟩ xl_36 hc xd_138_16 rfl (b' := 0) rfl xm_nd159 (T := xm_T6) (N := 7) rfl xl_434 xl_435 xl_436) <|
    xl_cons (xk_lconst hc xd_138_19 rfl) <|
    xl_cons (xk_lcmp hc xd_138_20) <|
    xl_cons (xk_ifCond hc xd_138_21 (by decide)) <|
    xl_cons (xk_iconst hc xd_138_24 (by decide)) <|
    xl_cons (xk_ireturn hc xd_138_25) <|
    xl_cons (xk_aload_n hc xd_138_26 rfl) <|
    xl_cons (xk_getfield (C := xm_C8) (T := xm_T8) (N := 2) hc xd_138_27 ho rfl (by decide) xm_u8 xl_407) <|
    xl_cons (xk_iload_n hc xd_138_30 rfl) <|
    xl_cons (xk_iconst hc xd_138_31 (by decide)) <|
    xl_cons (xk_iconst hc xd_138_32 (by decide)) <|
    xl_cons (xk_callV (Y := xm_y117) ho rfl (by decide) ⟨by decide, by decide⟩ xl_17 hc xd_138_33 rfl (b' := 3) rfl xm_nd117 (T := xm_T3) (N := 11) rfl xl_449 xl_450 xl_451) <|
    xl_cons (xk_aload_n hc xd_138_36 rfl) <|
    xl_cons (xk_getfield (C := xm_C8) (T := xm_T8) (N := 2) hc xd_138_37 ho rfl (by decide) xm_u8 xl_406) <|
    xl_cons (xk_aload_n hc xd_138_40 rfl) <|
    xl_cons (xk_getfield (C := xm_C8) (T := xm_T8) (N := 2) hc xd_138_41 ho rfl (by decide) xm_u8 xl_407) <|
    xl_cons (xk_iload_n hc xd_138_44 rfl) <|
    xl_cons (xk_callV (Y := xm_y165) ho rfl (by decide) ⟨by decide, by decide⟩ xl_36 hc xd_138_45 rfl (b' := 2) rfl xm_nd165 (T := xm_T6) (N := 7) rfl xl_474 xl_475 xl_476) <|
    xl_cons (xk_aload_n hc xd_138_48 rfl) <|
    xl_cons (xk_getfield (C := xm_C8) (T := xm_T8) (N := 2) hc xd_138_49 ho rfl (by decide) xm_u8 xl_406) <|
    xl_cons (xk_bipush hc xd_138_52 (by decide)) <|
    xl_cons (xk_callV (Y := xm_y158) ho rfl (by decide) ⟨by decide, by decide⟩ xl_36 hc xd_138_54 rfl (b' := 1) rfl xm_nd158 (T := xm_T6) (N := 7) rfl xl_423 xl_424 xl_425) <|
    xl_cons (xk_ireturn hc xd_138_57) (xl_nil)
theorem xo_138 : ∀ e ∈ xm_i138, xr_sd xm_P 138 e := xo_138_0
set_option maxRecDepth 100000 in
theorem xo_139_0 : ∀ e ∈ ([(0, 1, .aload_n 0, 0, 0, .null, [], none),
  (1, 3, .getfield 9, 8, 0, .null, [], none),
  (4, 2, .bipush 40, 0, 0, .int 40, [], none),
  (6, 3, .invokevirtual 40, 158, 2, .retAddr 0, [], none),
  (9, 3, .ifCond .ne 5, 14, 0, .null, [], none),
  (12, 1, .iconst 0, 0, 0, .int 0, [], none),
  (13, 1, .ireturn, 0, 0, .null, [], none),
  (14, 1, .aload_n 0, 0, 0, .null, [], none),
  (15, 3, .getfield 9, 8, 0, .null, [], none),
  (18, 3, .invokevirtual 74, 156, 1, .retAddr 0, [], none),
  (21, 2, .bipush 35, 0, 0, .int 35, [], none),
  (23, 3, .if_icmp .ne 7, 30, 0, .null, [], none),
  (26, 1, .iconst 1, 0, 0, .int 1, [], none),
  (27, 3, .goto 4, 31, 0, .null, [], none),
  (30, 1, .iconst 0, 0, 0, .int 0, [], none),
  (31, 1, .istore_n 2, 2, 0, .null, [], none),
  (32, 1, .aload_n 0, 0, 0, .null, [], none),
  (33, 3, .getfield 15, 8, 1, .null, [], none),
  (36, 1, .iload_n 1, 1, 0, .null, [], none),
  (37, 1, .iload_n 2, 2, 0, .null, [], none),
  (38, 3, .ifCond .eq 7, 45, 0, .null, [], none),
  (41, 1, .iconst 4, 0, 0, .int 4, [], none),
  (42, 3, .goto 4, 46, 0, .null, [], none),
  (45, 1, .iconst 3, 0, 0, .int 3, [], none),
  (46, 1, .iconst 0, 0, 0, .int 0, [], none),
  (47, 3, .invokevirtual 78, 117, 4, .retAddr 0, [], none),
  (50, 1, .aload_n 0, 0, 0, .null, [], none),
  (51, 3, .getfield 9, 8, 0, .null, [], none),
  (54, 2, .bipush 41, 0, 0, .int 41, [], none),
  (56, 3, .invokevirtual 40, 158, 2, .retAddr 0, [], none),
  (59, 3, .ifCond .eq 5, 64, 0, .null, [], none),
  (62, 1, .iconst 1, 0, 0, .int 1, [], none),
  (63, 1, .ireturn, 0, 0, .null, [], none),
  (64, 1, .iconst 0, 0, 0, .int 0, [], none),
  (65, 1, .istore_n 3, 3, 0, .null, [], none),
  (66, 1, .iload_n 3, 3, 0, .null, [], none),
  (67, 2, .bipush 6, 0, 0, .int 6, [], none),
  (69, 3, .if_icmp .ge 79, 148, 0, .null, [], none),
  (72, 1, .iload_n 2, 2, 0, .null, [], none),
  (73, 3, .ifCond .eq 13, 86, 0, .null, [], none)] : List xr_E), xr_sd xm_P 139 e := by
  have hc : xp_cd xm_P 139 = prog_6_method_8_code := rfl
  have ho : xp_own xm_P 139 = "ExchangeText$ModelReader" := rfl
  have hm : xp_ml xm_P 139 = 5 := rfl
  exact xl_cons (xk_aload_n hc xd_139_0 rfl) <|
    xl_cons (xk_getfield (C := xm_C8) (T := xm_T8) (N := 2) hc xd_139_1 ho rfl (by decide) xm_u8 xl_406) <|
    xl_cons (xk_bipush hc xd_139_4 (by decide)) <|
    xl_cons (xk_callV (Y := xm_y158) ho rfl (by decide) ⟨by decide, by decide⟩ xl_36 hc xd_139_6 rfl (b' := 1) rfl xm_nd158 (T := xm_T6) (N := 7) rfl xl_423 xl_424 xl_425) <|
    xl_cons (xk_ifCond hc xd_139_9 (by decide)) <|
    xl_cons (xk_iconst hc xd_139_12 (by decide)) <|
    xl_cons (xk_ireturn hc xd_139_13) <|
    xl_cons (xk_aload_n hc xd_139_14 rfl) <|
    xl_cons (xk_getfield (C := xm_C8) (T := xm_T8) (N := 2) hc xd_139_15 ho rfl (by decide) xm_u8 xl_406) <|
    xl_cons (xk_callV (Y := xm_y156) ho rfl (by decide) ⟨by decide, by decide⟩ xl_36 hc xd_139_18 rfl (b' := 0) rfl xm_nd156 (T := xm_T6) (N := 7) rfl xl_446 xl_447 xl_448) <|
    xl_cons (xk_bipush hc xd_139_21 (by decide)) <|
    xl_cons (xk_if_icmp hc xd_139_23 (by decide)) <|
    xl_cons (xk_iconst hc xd_139_26 (by decide)) <|
    xl_cons (xk_goto hc xd_139_27 (by decide)) <|
    xl_cons (xk_iconst hc xd_139_30 (by decide)) <|
    xl_cons (xk_istore_n hc xd_139_31 hm rfl (by decide)) <|
    xl_cons (xk_aload_n hc xd_139_32 rfl) <|
    xl_cons (xk_getfield (C := xm_C8) (T := xm_T8) (N := 2) hc xd_139_33 ho rfl (by decide) xm_u8 xl_407) <|
    xl_cons (xk_iload_n hc xd_139_36 rfl) <|
    xl_cons (xk_iload_n hc xd_139_37 rfl) <|
    xl_cons (xk_ifCond hc xd_139_38 (by decide)) <|
    xl_cons (xk_iconst hc xd_139_41 (by decide)) <|
    xl_cons (xk_goto hc xd_139_42 (by decide)) <|
    xl_cons (xk_iconst hc xd_139_45 (by decide)) <|
    xl_cons (xk_iconst hc xd_139_46 (by decide)) <|
    xl_cons (xk_callV (Y := xm_y117) ho rfl (by decide) ⟨by decide, by decide⟩ xl_17 hc xd_139_47 rfl (b' := 3) rfl xm_nd117 (T := xm_T3) (N := 11) rfl xl_449 xl_450 xl_451) <|
    xl_cons (xk_aload_n hc xd_139_50 rfl) <|
    xl_cons (xk_getfield (C := xm_C8) (T := xm_T8) (N := 2) hc xd_139_51 ho rfl (by decide) xm_u8 xl_406) <|
    xl_cons (xk_bipush hc xd_139_54 (by decide)) <|
    xl_cons (xk_callV (Y := xm_y158) ho rfl (by decide) ⟨by decide, by decide⟩ xl_36 hc xd_139_56 rfl (b' := 1) rfl xm_nd158 (T := xm_T6) (N := 7) rfl xl_423 xl_424 xl_425) <|
    xl_cons (xk_ifCond hc xd_139_59 (by decide)) <|
    xl_cons (xk_iconst hc xd_139_62 (by decide)) <|
    xl_cons (xk_ireturn hc xd_139_63) <|
    xl_cons (xk_iconst hc xd_139_64 (by decide)) <|
    xl_cons (xk_istore_n hc xd_139_65 hm rfl (by decide)) <|
    xl_cons (xk_iload_n hc xd_139_66 rfl) <|
    xl_cons (xk_bipush hc xd_139_67 (by decide)) <|
    xl_cons (xk_if_icmp hc xd_139_69 (by decide)) <|
    xl_cons (xk_iload_n hc xd_139_72 rfl) <|
    xl_cons (xk_ifCond hc xd_139_73 (by decide)) (xl_nil)
set_option maxRecDepth 100000 in
theorem xo_139_1 : ∀ e ∈ ([(76, 1, .aload_n 0, 0, 0, .null, [], none),
  (77, 3, .getfield 9, 8, 0, .null, [], none),
  (80, 3, .invokevirtual 91, 162, 1, .retAddr 0, [], none),
  (83, 3, .goto 10, 93, 0, .null, [], none),
  (86, 1, .aload_n 0, 0, 0, .null, [], none),
  (87, 3, .getfield 9, 8, 0, .null, [], none),
  (90, 3, .invokevirtual 94, 160, 1, .retAddr 0, [], none),
  (93, 2, .istore 4, 4, 0, .null, [], none),
  (95, 2, .iload 4, 4, 0, .null, [], none),
  (97, 2, .ldc 97, 0, 0, .int (-2000000000), [], none),
  (99, 3, .if_icmp .ne 5, 104, 0, .null, [], none),
  (102, 1, .iconst 0, 0, 0, .int 0, [], none),
  (103, 1, .ireturn, 0, 0, .null, [], none),
  (104, 1, .aload_n 0, 0, 0, .null, [], none),
  (105, 3, .getfield 15, 8, 1, .null, [], none),
  (108, 1, .iload_n 1, 1, 0, .null, [], none),
  (109, 2, .iload 4, 4, 0, .null, [], none),
  (111, 3, .invokevirtual 108, 118, 3, .retAddr 0, [], none),
  (114, 1, .aload_n 0, 0, 0, .null, [], none),
  (115, 3, .getfield 9, 8, 0, .null, [], none),
  (118, 2, .bipush 41, 0, 0, .int 41, [], none),
  (120, 3, .invokevirtual 40, 158, 2, .retAddr 0, [], none),
  (123, 3, .ifCond .eq 5, 128, 0, .null, [], none),
  (126, 1, .iconst 1, 0, 0, .int 1, [], none),
  (127, 1, .ireturn, 0, 0, .null, [], none),
  (128, 1, .aload_n 0, 0, 0, .null, [], none),
  (129, 3, .getfield 9, 8, 0, .null, [], none),
  (132, 2, .bipush 44, 0, 0, .int 44, [], none),
  (134, 3, .invokevirtual 40, 158, 2, .retAddr 0, [], none),
  (137, 3, .ifCond .ne 5, 142, 0, .null, [], none),
  (140, 1, .iconst 0, 0, 0, .int 0, [], none),
  (141, 1, .ireturn, 0, 0, .null, [], none),
  (142, 3, .iinc 3 1, 3, 0, .int 1, [], none),
  (145, 3, .goto (-79), 66, 0, .null, [], none),
  (148, 1, .iconst 0, 0, 0, .int 0, [], none),
  (149, 1, .ireturn, 0, 0, .null, [], none)] : List xr_E), xr_sd xm_P 139 e := by
  have hc : xp_cd xm_P 139 = prog_6_method_8_code := rfl
  have ho : xp_own xm_P 139 = "ExchangeText$ModelReader" := rfl
  have hm : xp_ml xm_P 139 = 5 := rfl
  exact xl_cons (xk_aload_n hc xd_139_76 rfl) <|
    xl_cons (xk_getfield (C := xm_C8) (T := xm_T8) (N := 2) hc xd_139_77 ho rfl (by decide) xm_u8 xl_406) <|
    xl_cons (xk_callV (Y := xm_y162) ho rfl (by decide) ⟨by decide, by decide⟩ xl_36 hc xd_139_80 rfl (b' := 0) rfl xm_nd162 (T := xm_T6) (N := 7) rfl xl_461 xl_462 xl_463) <|
    xl_cons (xk_goto hc xd_139_83 (by decide)) <|
    xl_cons (xk_aload_n hc xd_139_86 rfl) <|
    xl_cons (xk_getfield (C := xm_C8) (T := xm_T8) (N := 2) hc xd_139_87 ho rfl (by decide) xm_u8 xl_406) <|
    xl_cons (xk_callV (Y := xm_y160) ho rfl (by decide) ⟨by decide, by decide⟩ xl_36 hc xd_139_90 rfl (b' := 0) rfl xm_nd160 (T := xm_T6) (N := 7) rfl xl_464 xl_465 xl_466) <|
    xl_cons (xk_istore hc xd_139_93 hm rfl (by decide)) <|
    xl_cons (xk_iload hc xd_139_95 rfl) <|
    xl_cons (xk_ldc hc xd_139_97 ho rfl xl_467) <|
    xl_cons (xk_if_icmp hc xd_139_99 (by decide)) <|
    xl_cons (xk_iconst hc xd_139_102 (by decide)) <|
    xl_cons (xk_ireturn hc xd_139_103) <|
    xl_cons (xk_aload_n hc xd_139_104 rfl) <|
    xl_cons (xk_getfield (C := xm_C8) (T := xm_T8) (N := 2) hc xd_139_105 ho rfl (by decide) xm_u8 xl_407) <|
    xl_cons (xk_iload_n hc xd_139_108 rfl) <|
    xl_cons (xk_iload hc xd_139_109 rfl) <|
    xl_cons (xk_callV (Y := xm_y118) ho rfl (by decide) ⟨by decide, by decide⟩ xl_17 hc xd_139_111 rfl (b' := 2) rfl xm_nd118 (T := xm_T3) (N := 11) rfl xl_477 xl_478 xl_479) <|
    xl_cons (xk_aload_n hc xd_139_114 rfl) <|
    xl_cons (xk_getfield (C := xm_C8) (T := xm_T8) (N := 2) hc xd_139_115 ho rfl (by decide) xm_u8 xl_406) <|
    xl_cons (xk_bipush hc xd_139_118 (by decide)) <|
    xl_cons (xk_callV (Y := xm_y158) ho rfl (by decide) ⟨by decide, by decide⟩ xl_36 hc xd_139_120 rfl (b' := 1) rfl xm_nd158 (T := xm_T6) (N := 7) rfl xl_423 xl_424 xl_425) <|
    xl_cons (xk_ifCond hc xd_139_123 (by decide)) <|
    xl_cons (xk_iconst hc xd_139_126 (by decide)) <|
    xl_cons (xk_ireturn hc xd_139_127) <|
    xl_cons (xk_aload_n hc xd_139_128 rfl) <|
    xl_cons (xk_getfield (C := xm_C8) (T := xm_T8) (N := 2) hc xd_139_129 ho rfl (by decide) xm_u8 xl_406) <|
    xl_cons (xk_bipush hc xd_139_132 (by decide)) <|
    xl_cons (xk_callV (Y := xm_y158) ho rfl (by decide) ⟨by decide, by decide⟩ xl_36 hc xd_139_134 rfl (b' := 1) rfl xm_nd158 (T := xm_T6) (N := 7) rfl xl_423 xl_424 xl_425) <|
    xl_cons (xk_ifCond hc xd_139_137 (by decide)) <|
    xl_cons (xk_iconst hc xd_139_140 (by decide)) <|
    xl_cons (xk_ireturn hc xd_139_141) <|
    xl_cons (xk_iinc hc xd_139_142 hm rfl (by decide) (by decide)) <|
    xl_cons (xk_goto hc xd_139_145 (by decide)) <|
    xl_cons (xk_iconst hc xd_139_148 (by decide)) <|
    xl_cons (xk_ireturn hc xd_139_149) (xl_nil)
theorem xo_139 : ∀ e ∈ xm_i139, xr_sd xm_P 139 e := xl_app xo_139_0 (xo_139_1)
set_option maxRecDepth 100000 in
theorem xo_140_0 : ∀ e ∈ ([(0, 1, .aload_n 0, 0, 0, .null, [], none),
  (1, 3, .invokespecial 3, 0, 0, .int 1, [], none),
  (4, 1, .aload_n 0, 0, 0, .null, [], none),
  (5, 3, .sipush 1200, 0, 0, .int 1200, [], none),
  (8, 2, .newarray .char, 2, 0, .null, [], none),
  (10, 3, .putfield 9, 1, 0, .null, [], none),
  (13, 1, .return_, 0, 0, .null, [], none)] : List xr_E), xr_sd xm_P 140 e := by
  have hc : xp_cd xm_P 140 = prog_7_method_1_code := rfl
  have ho : xp_own xm_P 140 = "ExchangeText$Page" := rfl
  have hm : xp_ml xm_P 140 = 1 := rfl
  exact xl_cons (xk_aload_n hc xd_140_0 rfl) <|
    xl_cons (xk_objInit hc xd_140_1 ho xm_rl140 xl_480 xl_1 xl_2) <|
    xl_cons (xk_aload_n hc xd_140_4 rfl) <|
    xl_cons (xk_sipush hc xd_140_5 (by decide)) <|
    xl_cons (xk_newarray hc xd_140_8 (by decide) rfl xl_481) <|
    xl_cons (xk_putfieldF (C := xm_C1) (T := xm_T1) (N := 3) (ty := xm_ty1) hc xd_140_10 ho rfl (by decide) xm_u1 xm_tk1 rfl xm_nm1 xl_482 rfl rfl rfl) <|
    xl_cons (xk_return_ hc xd_140_13) (xl_nil)
theorem xo_140 : ∀ e ∈ xm_i140, xr_sd xm_P 140 e := xo_140_0
set_option maxRecDepth 100000 in
theorem xo_141_0 : ∀ e ∈ ([(0, 1, .aload_n 0, 0, 0, .null, [], none),
  (1, 1, .iconst 0, 0, 0, .int 0, [], none),
  (2, 3, .putfield 15, 1, 1, .null, [], none),
  (5, 1, .aload_n 0, 0, 0, .null, [], none),
  (6, 1, .iconst 0, 0, 0, .int 0, [], none),
  (7, 3, .putfield 19, 1, 2, .null, [], none),
  (10, 1, .return_, 0, 0, .null, [], none)] : List xr_E), xr_sd xm_P 141 e := by
  have hc : xp_cd xm_P 141 = prog_7_method_2_code := rfl
  have ho : xp_own xm_P 141 = "ExchangeText$Page" := rfl
  have hm : xp_ml xm_P 141 = 1 := rfl
  exact xl_cons (xk_aload_n hc xd_141_0 rfl) <|
    xl_cons (xk_iconst hc xd_141_1 (by decide)) <|
    xl_cons (xk_putfield (C := xm_C1) (T := xm_T1) (N := 3) (ty := xm_ty1) hc xd_141_2 ho rfl (by decide) xm_u1 xm_tk1 rfl xm_nm1 xl_483 rfl) <|
    xl_cons (xk_aload_n hc xd_141_5 rfl) <|
    xl_cons (xk_iconst hc xd_141_6 (by decide)) <|
    xl_cons (xk_putfield (C := xm_C1) (T := xm_T1) (N := 3) (ty := xm_ty1) hc xd_141_7 ho rfl (by decide) xm_u1 xm_tk1 rfl xm_nm1 xl_484 rfl) <|
    xl_cons (xk_return_ hc xd_141_10) (xl_nil)
theorem xo_141 : ∀ e ∈ xm_i141, xr_sd xm_P 141 e := xo_141_0
set_option maxRecDepth 100000 in
theorem xo_142_0 : ∀ e ∈ ([(0, 1, .aload_n 0, 0, 0, .null, [], none),
  (1, 3, .getfield 15, 1, 1, .null, [], none),
  (4, 3, .ifCond .lt 38, 42, 0, .null, [], none),
  (7, 1, .aload_n 0, 0, 0, .null, [], none),
  (8, 3, .getfield 15, 1, 1, .null, [], none),
  (11, 1, .aload_n 0, 0, 0, .null, [], none),
  (12, 3, .getfield 9, 1, 0, .null, [], none),
  (15, 1, .arraylength, 0, 0, .null, [], none),
  (16, 3, .if_icmp .ge 26, 42, 0, .null, [], none),
  (19, 1, .aload_n 0, 0, 0, .null, [], none),
  (20, 3, .getfield 9, 1, 0, .null, [], none),
  (23, 1, .aload_n 0, 0, 0, .null, [], none),
  (24, 3, .getfield 15, 1, 1, .null, [], none),
  (27, 1, .iload_n 1, 1, 0, .null, [], none),
  (28, 1, .castore, 0, 0, .null, [], none),
  (29, 1, .aload_n 0, 0, 0, .null, [], none),
  (30, 1, .dup, 0, 0, .null, [], none),
  (31, 3, .getfield 15, 1, 1, .null, [], none),
  (34, 1, .iconst 1, 0, 0, .int 1, [], none),
  (35, 1, .iadd, 0, 0, .null, [], none),
  (36, 3, .putfield 15, 1, 1, .null, [], none),
  (39, 3, .goto 8, 47, 0, .null, [], none),
  (42, 1, .aload_n 0, 0, 0, .null, [], none),
  (43, 1, .iconst 1, 0, 0, .int 1, [], none),
  (44, 3, .putfield 19, 1, 2, .null, [], none),
  (47, 1, .return_, 0, 0, .null, [], none)] : List xr_E), xr_sd xm_P 142 e := by
  have hc : xp_cd xm_P 142 = prog_7_method_3_code := rfl
  have ho : xp_own xm_P 142 = "ExchangeText$Page" := rfl
  have hm : xp_ml xm_P 142 = 2 := rfl
  exact xl_cons (xk_aload_n hc xd_142_0 rfl) <|
    xl_cons (xk_getfield (C := xm_C1) (T := xm_T1) (N := 3) hc xd_142_1 ho rfl (by decide) xm_u1 xl_483) <|
    xl_cons (xk_ifCond hc xd_142_4 (by decide)) <|
    xl_cons (xk_aload_n hc xd_142_7 rfl) <|
    xl_cons (xk_getfield (C := xm_C1) (T := xm_T1) (N := 3) hc xd_142_8 ho rfl (by decide) xm_u1 xl_483) <|
    xl_cons (xk_aload_n hc xd_142_11 rfl) <|
    xl_cons (xk_getfield (C := xm_C1) (T := xm_T1) (N := 3) hc xd_142_12 ho rfl (by decide) xm_u1 xl_482) <|
    xl_cons (xk_arraylength hc xd_142_15) <|
    xl_cons (xk_if_icmp hc xd_142_16 (by decide)) <|
    xl_cons (xk_aload_n hc xd_142_19 rfl) <|
    xl_cons (xk_getfield (C := xm_C1) (T := xm_T1) (N := 3) hc xd_142_20 ho rfl (by decide) xm_u1 xl_482) <|
    xl_cons (xk_aload_n hc xd_142_23 rfl) <|
    xl_cons (xk_getfield (C := xm_C1) (T := xm_T1) (N := 3) hc xd_142_24 ho rfl (by decide) xm_u1 xl_483) <|
    xl_cons (xk_iload_n hc xd_142_27 rfl) <|
    xl_cons (xk_castore hc xd_142_28) <|
    xl_cons (xk_aload_n hc xd_142_29 rfl) <|
    xl_cons (xk_dup hc xd_142_30) <|
    xl_cons (xk_getfield (C := xm_C1) (T := xm_T1) (N := 3) hc xd_142_31 ho rfl (by decide) xm_u1 xl_483) <|
    xl_cons (xk_iconst hc xd_142_34 (by decide)) <|
    xl_cons (xk_iadd hc xd_142_35) <|
    xl_cons (xk_putfield (C := xm_C1) (T := xm_T1) (N := 3) (ty := xm_ty1) hc xd_142_36 ho rfl (by decide) xm_u1 xm_tk1 rfl xm_nm1 xl_483 rfl) <|
    xl_cons (xk_goto hc xd_142_39 (by decide)) <|
    xl_cons (xk_aload_n hc xd_142_42 rfl) <|
    xl_cons (xk_iconst hc xd_142_43 (by decide)) <|
    xl_cons (xk_putfield (C := xm_C1) (T := xm_T1) (N := 3) (ty := xm_ty1) hc xd_142_44 ho rfl (by decide) xm_u1 xm_tk1 rfl xm_nm1 xl_484 rfl) <|
    xl_cons (xk_return_ hc xd_142_47) (xl_nil)
theorem xo_142 : ∀ e ∈ xm_i142, xr_sd xm_P 142 e := xo_142_0
set_option maxRecDepth 100000 in
theorem xo_143_0 : ∀ e ∈ ([(0, 2, .bipush 56, 0, 0, .int 56, [], none),
  (2, 1, .istore_n 3, 3, 0, .null, [], none),
  (3, 1, .iload_n 3, 3, 0, .null, [], none),
  (4, 3, .ifCond .lt 28, 32, 0, .null, [], none),
  (7, 1, .lload_n 1, 1, 0, .null, [], none),
  (8, 1, .iload_n 3, 3, 0, .null, [], none),
  (9, 3, .invokestatic 23, 27, 2, .retAddr 3, [], none),
  (12, 2, .istore 4, 4, 0, .null, [], none),
  (14, 2, .iload 4, 4, 0, .null, [], none),
  (16, 3, .ifCond .eq 10, 26, 0, .null, [], none),
  (19, 1, .aload_n 0, 0, 0, .null, [], none),
  (20, 2, .iload 4, 4, 0, .null, [], none),
  (22, 1, .i2c, 0, 0, .null, [], none),
  (23, 3, .invokevirtual 27, 142, 2, .retAddr 0, [], none),
  (26, 3, .iinc 3 (-8), 3, 0, .int (-8), [], none),
  (29, 3, .goto (-26), 3, 0, .null, [], none),
  (32, 1, .return_, 0, 0, .null, [], none)] : List xr_E), xr_sd xm_P 143 e := by
  have hc : xp_cd xm_P 143 = prog_7_method_4_code := rfl
  have ho : xp_own xm_P 143 = "ExchangeText$Page" := rfl
  have hm : xp_ml xm_P 143 = 5 := rfl
  exact xl_cons (xk_bipush hc xd_143_0 (by decide)) <|
    xl_cons (xk_istore_n hc xd_143_2 hm rfl (by decide)) <|
    xl_cons (xk_iload_n hc xd_143_3 rfl) <|
    xl_cons (xk_ifCond hc xd_143_4 (by decide)) <|
    xl_cons (xk_lload_n hc xd_143_7 rfl) <|
    xl_cons (xk_iload_n hc xd_143_8 rfl) <|
    xl_cons (xk_callSN (Y := xm_y27) ho rfl (by decide) ⟨by decide, by decide⟩ xl_52 hc xd_143_9 rfl xm_nd27 xz_12 xl_53) <|
    xl_cons (xk_istore hc xd_143_12 hm rfl (by decide)) <|
    xl_cons (xk_iload hc xd_143_14 rfl) <|
    xl_cons (xk_ifCond hc xd_143_16 (by decide)) <|
    xl_cons (xk_aload_n hc xd_143_19 rfl) <|
    xl_cons (xk_iload hc xd_143_20 rfl) <|
    xl_cons (xk_i2c hc xd_143_22) <|
    xl_cons (xk_callV (Y := xm_y142) ho rfl (by decide) ⟨by decide, by decide⟩ xl_5 hc xd_143_23 rfl (b' := 1) rfl xm_nd142 (T := xm_T1) (N := 3) rfl xl_485 xl_486 xl_487) <|
    xl_cons (xk_iinc hc xd_143_26 hm rfl (by decide) (by decide)) <|
    xl_cons (xk_goto hc xd_143_29 (by decide)) <|
    xl_cons (xk_return_ hc xd_143_32) (xl_nil)
theorem xo_143 : ∀ e ∈ xm_i143, xr_sd xm_P 143 e := xo_143_0
set_option maxRecDepth 100000 in
theorem xo_144_0 : ∀ e ∈ ([(0, 1, .iload_n 1, 1, 0, .null, [], none),
  (1, 3, .ifCond .lt 20, 21, 0, .null, [], none),
  (4, 1, .iload_n 1, 1, 0, .null, [], none),
  (5, 1, .aload_n 0, 0, 0, .null, [], none),
  (6, 3, .getfield 15, 1, 1, .null, [], none),
  (9, 3, .if_icmp .ge 12, 21, 0, .null, [], none),
  (12, 1, .aload_n 0, 0, 0, .null, [], none),
  (13, 3, .getfield 9, 1, 0, .null, [], none),
  (16, 1, .iload_n 1, 1, 0, .null, [], none),
  (17, 1, .caload, 0, 0, .null, [], none),
  (18, 3, .goto 4, 22, 0, .null, [], none),
  (21, 1, .iconst 0, 0, 0, .int 0, [], none),
  (22, 1, .ireturn, 0, 0, .null, [], none)] : List xr_E), xr_sd xm_P 144 e := by
  have hc : xp_cd xm_P 144 = prog_7_method_5_code := rfl
  have ho : xp_own xm_P 144 = "ExchangeText$Page" := rfl
  have hm : xp_ml xm_P 144 = 2 := rfl
  exact xl_cons (xk_iload_n hc xd_144_0 rfl) <|
    xl_cons (xk_ifCond hc xd_144_1 (by decide)) <|
    xl_cons (xk_iload_n hc xd_144_4 rfl) <|
    xl_cons (xk_aload_n hc xd_144_5 rfl) <|
    xl_cons (xk_getfield (C := xm_C1) (T := xm_T1) (N := 3) hc xd_144_6 ho rfl (by decide) xm_u1 xl_483) <|
    xl_cons (xk_if_icmp hc xd_144_9 (by decide)) <|
    xl_cons (xk_aload_n hc xd_144_12 rfl) <|
    xl_cons (xk_getfield (C := xm_C1) (T := xm_T1) (N := 3) hc xd_144_13 ho rfl (by decide) xm_u1 xl_482) <|
    xl_cons (xk_iload_n hc xd_144_16 rfl) <|
    xl_cons (xk_caload hc xd_144_17) <|
    xl_cons (xk_goto hc xd_144_18 (by decide)) <|
    xl_cons (xk_iconst hc xd_144_21 (by decide)) <|
    xl_cons (xk_ireturn hc xd_144_22) (xl_nil)
theorem xo_144 : ∀ e ∈ xm_i144, xr_sd xm_P 144 e := xo_144_0
set_option maxRecDepth 100000 in
theorem xo_145_0 : ∀ e ∈ ([(0, 1, .aload_n 1, 1, 0, .null, [], none),
  (1, 3, .getfield 9, 1, 0, .null, [], none),
  (4, 1, .iconst 0, 0, 0, .int 0, [], none),
  (5, 1, .aload_n 0, 0, 0, .null, [], none),
  (6, 3, .getfield 9, 1, 0, .null, [], none),
  (9, 1, .iconst 0, 0, 0, .int 0, [], none),
  (10, 1, .aload_n 1, 1, 0, .null, [], none),
  (11, 3, .getfield 15, 1, 1, .null, [], none),
  (14, 3, .invokestatic 31, 0, 0, .int 3, [], none),
  (17, 1, .aload_n 0, 0, 0, .null, [], none),
  (18, 1, .aload_n 1, 1, 0, .null, [], none),
  (19, 3, .getfield 15, 1, 1, .null, [], none),
  (22, 3, .putfield 15, 1, 1, .null, [], none),
  (25, 1, .aload_n 0, 0, 0, .null, [], none),
  (26, 1, .aload_n 1, 1, 0, .null, [], none),
  (27, 3, .getfield 19, 1, 2, .null, [], none),
  (30, 3, .putfield 19, 1, 2, .null, [], none),
  (33, 1, .return_, 0, 0, .null, [], none)] : List xr_E), xr_sd xm_P 145 e := by
  have hc : xp_cd xm_P 145 = prog_7_method_6_code := rfl
  have ho : xp_own xm_P 145 = "ExchangeText$Page" := rfl
  have hm : xp_ml xm_P 145 = 2 := rfl
  exact xl_cons (xk_aload_n hc xd_145_0 rfl) <|
    xl_cons (xk_getfield (C := xm_C1) (T := xm_T1) (N := 3) hc xd_145_1 ho rfl (by decide) xm_u1 xl_482) <|
    xl_cons (xk_iconst hc xd_145_4 (by decide)) <|
    xl_cons (xk_aload_n hc xd_145_5 rfl) <|
    xl_cons (xk_getfield (C := xm_C1) (T := xm_T1) (N := 3) hc xd_145_6 ho rfl (by decide) xm_u1 xl_482) <|
    xl_cons (xk_iconst hc xd_145_9 (by decide)) <|
    xl_cons (xk_aload_n hc xd_145_10 rfl) <|
    xl_cons (xk_getfield (C := xm_C1) (T := xm_T1) (N := 3) hc xd_145_11 ho rfl (by decide) xm_u1 xl_483) <|
    xl_cons (xk_copy hc xd_145_14 ho xm_rl145 xl_488 xl_370 xl_371 xl_372) <|
    xl_cons (xk_aload_n hc xd_145_17 rfl) <|
    xl_cons (xk_aload_n hc xd_145_18 rfl) <|
    xl_cons (xk_getfield (C := xm_C1) (T := xm_T1) (N := 3) hc xd_145_19 ho rfl (by decide) xm_u1 xl_483) <|
    xl_cons (xk_putfield (C := xm_C1) (T := xm_T1) (N := 3) (ty := xm_ty1) hc xd_145_22 ho rfl (by decide) xm_u1 xm_tk1 rfl xm_nm1 xl_483 rfl) <|
    xl_cons (xk_aload_n hc xd_145_25 rfl) <|
    xl_cons (xk_aload_n hc xd_145_26 rfl) <|
    xl_cons (xk_getfield (C := xm_C1) (T := xm_T1) (N := 3) hc xd_145_27 ho rfl (by decide) xm_u1 xl_484) <|
    xl_cons (xk_putfield (C := xm_C1) (T := xm_T1) (N := 3) (ty := xm_ty1) hc xd_145_30 ho rfl (by decide) xm_u1 xm_tk1 rfl xm_nm1 xl_484 rfl) <|
    xl_cons (xk_return_ hc xd_145_33) (xl_nil)
theorem xo_145 : ∀ e ∈ xm_i145, xr_sd xm_P 145 e := xo_145_0
set_option maxRecDepth 100000 in
theorem xo_146_0 : ∀ e ∈ ([(0, 1, .aload_n 0, 0, 0, .null, [], none),
  (1, 3, .invokespecial 3, 0, 0, .int 1, [], none),
  (4, 1, .aload_n 0, 0, 0, .null, [], none),
  (5, 1, .aload_n 1, 1, 0, .null, [], none),
  (6, 3, .putfield 9, 7, 0, .null, [], none),
  (9, 1, .aload_n 0, 0, 0, .null, [], none),
  (10, 1, .aload_n 2, 2, 0, .null, [], none),
  (11, 3, .putfield 15, 7, 1, .null, [], none),
  (14, 1, .return_, 0, 0, .null, [], none)] : List xr_E), xr_sd xm_P 146 e := by
  have hc : xp_cd xm_P 146 = prog_8_method_1_code := rfl
  have ho : xp_own xm_P 146 = "ExchangeText$SchemaReader" := rfl
  have hm : xp_ml xm_P 146 = 3 := rfl
  exact xl_cons (xk_aload_n hc xd_146_0 rfl) <|
    xl_cons (xk_objInit hc xd_146_1 ho xm_rl146 xl_489 xl_1 xl_2) <|
    xl_cons (xk_aload_n hc xd_146_4 rfl) <|
    xl_cons (xk_aload_n hc xd_146_5 rfl) <|
    xl_cons (xk_putfieldF (C := xm_C7) (T := xm_T7) (N := 2) (ty := xm_ty7) hc xd_146_6 ho rfl (by decide) xm_u7 xm_tk7 rfl xm_nm7 xl_490 rfl rfl rfl) <|
    xl_cons (xk_aload_n hc xd_146_9 rfl) <|
    xl_cons (xk_aload_n hc xd_146_10 rfl) <|
    xl_cons (xk_putfieldF (C := xm_C7) (T := xm_T7) (N := 2) (ty := xm_ty7) hc xd_146_11 ho rfl (by decide) xm_u7 xm_tk7 rfl xm_nm7 xl_491 rfl rfl rfl) <|
    xl_cons (xk_return_ hc xd_146_14) (xl_nil)
theorem xo_146 : ∀ e ∈ xm_i146, xr_sd xm_P 146 e := xo_146_0
set_option maxRecDepth 100000 in
theorem xo_147_0 : ∀ e ∈ ([(0, 1, .aload_n 0, 0, 0, .null, [], none),
  (1, 3, .getfield 15, 7, 1, .null, [], none),
  (4, 1, .iconst 0, 0, 0, .int 0, [], none),
  (5, 3, .putfield 19, 2, 0, .null, [], none),
  (8, 1, .aload_n 0, 0, 0, .null, [], none),
  (9, 3, .getfield 9, 7, 0, .null, [], none),
  (12, 1, .iconst 1, 0, 0, .int 1, [], none),
  (13, 3, .invokevirtual 25, 150, 2, .retAddr 0, [], none),
  (16, 1, .iconst 0, 0, 0, .int 0, [], none),
  (17, 1, .istore_n 1, 1, 0, .null, [], none),
  (18, 1, .iload_n 1, 1, 0, .null, [], none),
  (19, 2, .bipush 12, 0, 0, .int 12, [], none),
  (21, 3, .if_icmp .gt 28, 49, 0, .null, [], none),
  (24, 1, .aload_n 0, 0, 0, .null, [], none),
  (25, 3, .getfield 9, 7, 0, .null, [], none),
  (28, 3, .invokevirtual 31, 154, 1, .retAddr 0, [], none),
  (31, 3, .ifCond .eq 18, 49, 0, .null, [], none),
  (34, 1, .aload_n 0, 0, 0, .null, [], none),
  (35, 3, .invokevirtual 35, 148, 1, .retAddr 0, [], none),
  (38, 3, .ifCond .ne 5, 43, 0, .null, [], none),
  (41, 1, .iconst 0, 0, 0, .int 0, [], none),
  (42, 1, .ireturn, 0, 0, .null, [], none),
  (43, 3, .iinc 1 1, 1, 0, .int 1, [], none),
  (46, 3, .goto (-28), 18, 0, .null, [], none),
  (49, 1, .iconst 1, 0, 0, .int 1, [], none),
  (50, 1, .ireturn, 0, 0, .null, [], none)] : List xr_E), xr_sd xm_P 147 e := by
  have hc : xp_cd xm_P 147 = prog_8_method_2_code := rfl
  have ho : xp_own xm_P 147 = "ExchangeText$SchemaReader" := rfl
  have hm : xp_ml xm_P 147 = 2 := rfl
  exact xl_cons (xk_aload_n hc xd_147_0 rfl) <|
    xl_cons (xk_getfield (C := xm_C7) (T := xm_T7) (N := 2) hc xd_147_1 ho rfl (by decide) xm_u7 xl_491) <|
    xl_cons (xk_iconst hc xd_147_4 (by decide)) <|
    xl_cons (xk_putfield (C := xm_C2) (T := xm_T2) (N := 5) (ty := xm_ty2) hc xd_147_5 ho rfl (by decide) xm_u2 xm_tk2 rfl xm_nm2 xl_492 rfl) <|
    xl_cons (xk_aload_n hc xd_147_8 rfl) <|
    xl_cons (xk_getfield (C := xm_C7) (T := xm_T7) (N := 2) hc xd_147_9 ho rfl (by decide) xm_u7 xl_490) <|
    xl_cons (xk_iconst hc xd_147_12 (by decide)) <|
    xl_cons (xk_callV (Y := xm_y150) ho rfl (by decide) ⟨by decide, by decide⟩ xl_36 hc xd_147_13 rfl (b' := 1) rfl xm_nd150 (T := xm_T6) (N := 7) rfl xl_493 xl_412 xl_413) <|
    xl_cons (xk_iconst hc xd_147_16 (by decide)) <|
    xl_cons (xk_istore_n hc xd_147_17 hm rfl (by decide)) <|
    xl_cons (xk_iload_n hc xd_147_18 rfl) <|
    xl_cons (xk_bipush hc xd_147_19 (by decide)) <|
    xl_cons (xk_if_icmp hc xd_147_21 (by decide)) <|
    xl_cons (xk_aload_n hc xd_147_24 rfl) <|
    xl_cons (xk_getfield (C := xm_C7) (T := xm_T7) (N := 2) hc xd_147_25 ho rfl (by decide) xm_u7 xl_490) <|
    xl_cons (xk_callV (Y := xm_y154) ho rfl (by decide) ⟨by decide, by decide⟩ xl_36 hc xd_147_28 rfl (b' := 0) rfl xm_nd154 (T := xm_T6) (N := 7) rfl xl_494 xl_415 xl_416) <|
    xl_cons (xk_ifCond hc xd_147_31 (by decide)) <|
    xl_cons (xk_aload_n hc xd_147_34 rfl) <|
    xl_cons (xk_callV (Y := xm_y148) ho rfl (by decide) ⟨by decide, by decide⟩ xl_41 hc xd_147_35 rfl (b' := 0) rfl xm_nd148 (T := xm_T7) (N := 2) rfl xl_495 xl_496 xl_497) <|
    xl_cons (xk_ifCond hc xd_147_38 (by decide)) <|
    xl_cons (xk_iconst hc xd_147_41 (by decide)) <|
    xl_cons (xk_ireturn hc xd_147_42) <|
    xl_cons (xk_iinc hc xd_147_43 hm rfl (by decide) (by decide)) <|
    xl_cons (xk_goto hc xd_147_46 (by decide)) <|
    xl_cons (xk_iconst hc xd_147_49 (by decide)) <|
    xl_cons (xk_ireturn hc xd_147_50) (xl_nil)
theorem xo_147 : ∀ e ∈ xm_i147, xr_sd xm_P 147 e := xo_147_0
set_option maxRecDepth 100000 in
theorem xo_148_0 : ∀ e ∈ ([(0, 1, .aload_n 0, 0, 0, .null, [], none),
  (1, 3, .getfield 9, 7, 0, .null, [], none),
  (4, 3, .invokevirtual 38, 159, 1, .retAddr 0, [], none),
  (7, 1, .lstore_n 1, 1, 0, .null, [], none),
  (8, 1, .lload_n 1, 1, 0, .null, [], none),
  (9, 1, .lconst 0, 0, 0, .long 0, [], none),
  (10, 1, .lcmp, 0, 0, .null, [], none),
  (11, 3, .ifCond .eq 27, 38, 0, .null, [], none),
  (14, 1, .aload_n 0, 0, 0, .null, [], none),
  (15, 3, .getfield 15, 7, 1, .null, [], none),
  (18, 3, .getfield 19, 2, 0, .null, [], none),
  (21, 2, .bipush 12, 0, 0, .int 12, [], none),
  (23, 3, .if_icmp .ge 15, 38, 0, .null, [], none),
  (26, 1, .aload_n 0, 0, 0, .null, [], none),
  (27, 3, .getfield 15, 7, 1, .null, [], none),
  (30, 1, .lload_n 1, 1, 0, .null, [], none),
  (31, 3, .invokevirtual 42, 103, 2, .retAddr 0, [], none),
  (34, 1, .iconst (-1), 0, 0, .int (-1), [], none),
  (35, 3, .if_icmp .eq 5, 40, 0, .null, [], none),
  (38, 1, .iconst 0, 0, 0, .int 0, [], none),
  (39, 1, .ireturn, 0, 0, .null, [], none),
  (40, 1, .aload_n 0, 0, 0, .null, [], none),
  (41, 3, .getfield 9, 7, 0, .null, [], none),
  (44, 3, .invokevirtual 46, 157, 1, .retAddr 0, [], none),
  (47, 1, .aload_n 0, 0, 0, .null, [], none),
  (48, 3, .getfield 15, 7, 1, .null, [], none),
  (51, 1, .lload_n 1, 1, 0, .null, [], none),
  (52, 3, .invokevirtual 49, 104, 2, .retAddr 0, [], none),
  (55, 1, .aload_n 0, 0, 0, .null, [], none),
  (56, 3, .getfield 9, 7, 0, .null, [], none),
  (59, 2, .bipush 61, 0, 0, .int 61, [], none),
  (61, 3, .invokevirtual 53, 158, 2, .retAddr 0, [], none),
  (64, 3, .ifCond .ne 5, 69, 0, .null, [], none),
  (67, 1, .iconst 0, 0, 0, .int 0, [], none),
  (68, 1, .ireturn, 0, 0, .null, [], none),
  (69, 1, .iconst 0, 0, 0, .int 0, [], none),
  (70, 1, .istore_n 3, 3, 0, .null, [], none),
  (71, 1, .iload_n 3, 3, 0, .null, [], none),
  (72, 2, .bipush 8, 0, 0, .int 8, [], none),
  (74, 3, .if_icmp .ge 70, 144, 0, .null, [], none)] : List xr_E), xr_sd xm_P 148 e := by
  have hc : xp_cd xm_P 148 = prog_8_method_3_code := rfl
  have ho : xp_own xm_P 148 = "ExchangeText$SchemaReader" := rfl
  have hm : xp_ml xm_P 148 = 5 := rfl
  exact xl_cons (xk_aload_n hc xd_148_0 rfl) <|
    xl_cons (xk_getfield (C := xm_C7) (T := xm_T7) (N := 2) hc xd_148_1 ho rfl (by decide) xm_u7 xl_490) <|
    xl_cons (xk_callV (Y := xm_y159) ho rfl (by decide) ⟨by decide, by decide⟩ xl_36 hc xd_148_4 rfl (b' := 0) rfl xm_nd159 (T := xm_T6) (N := 7) rfl xl_498 xl_435 xl_436) <|
    xl_cons (xk_lstore_n hc xd_148_7 hm rfl (by decide)) <|
    xl_cons (xk_lload_n hc xd_148_8 rfl) <|
    xl_cons (xk_lconst hc xd_148_9 rfl) <|
    xl_cons (xk_lcmp hc xd_148_10) <|
    xl_cons (xk_ifCond hc xd_148_11 (by decide)) <|
    xl_cons (xk_aload_n hc xd_148_14 rfl) <|
    xl_cons (xk_getfield (C := xm_C7) (T := xm_T7) (N := 2) hc xd_148_15 ho rfl (by decide) xm_u7 xl_491) <|
    xl_cons (xk_getfield (C := xm_C2) (T := xm_T2) (N := 5) hc xd_148_18 ho rfl (by decide) xm_u2 xl_492) <|
    xl_cons (xk_bipush hc xd_148_21 (by decide)) <|
    xl_cons (xk_if_icmp hc xd_148_23 (by decide)) <|
    xl_cons (xk_aload_n hc xd_148_26 rfl) <|
    xl_cons (xk_getfield (C := xm_C7) (T := xm_T7) (N := 2) hc xd_148_27 ho rfl (by decide) xm_u7 xl_491) <|
    xl_cons (xk_lload_n hc xd_148_30 rfl) <|
    xl_cons (xk_callV (Y := xm_y103) ho rfl (by decide) ⟨by decide, by decide⟩ xl_11 hc xd_148_31 rfl (b' := 1) rfl xm_nd103 (T := xm_T2) (N := 5) rfl xl_499 xl_111 xl_112) <|
    xl_cons (xk_iconst hc xd_148_34 (by decide)) <|
    xl_cons (xk_if_icmp hc xd_148_35 (by decide)) <|
    xl_cons (xk_iconst hc xd_148_38 (by decide)) <|
    xl_cons (xk_ireturn hc xd_148_39) <|
    xl_cons (xk_aload_n hc xd_148_40 rfl) <|
    xl_cons (xk_getfield (C := xm_C7) (T := xm_T7) (N := 2) hc xd_148_41 ho rfl (by decide) xm_u7 xl_490) <|
    xl_cons (xk_callV (Y := xm_y157) ho rfl (by decide) ⟨by decide, by decide⟩ xl_36 hc xd_148_44 rfl (b' := 0) rfl xm_nd157 (T := xm_T6) (N := 7) rfl xl_500 xl_432 xl_433) <|
    xl_cons (xk_aload_n hc xd_148_47 rfl) <|
    xl_cons (xk_getfield (C := xm_C7) (T := xm_T7) (N := 2) hc xd_148_48 ho rfl (by decide) xm_u7 xl_491) <|
    xl_cons (xk_lload_n hc xd_148_51 rfl) <|
    xl_cons (xk_callV (Y := xm_y104) ho rfl (by decide) ⟨by decide, by decide⟩ xl_11 hc xd_148_52 rfl (b' := 1) rfl xm_nd104 (T := xm_T2) (N := 5) rfl xl_501 xl_502 xl_503) <|
    xl_cons (xk_aload_n hc xd_148_55 rfl) <|
    xl_cons (xk_getfield (C := xm_C7) (T := xm_T7) (N := 2) hc xd_148_56 ho rfl (by decide) xm_u7 xl_490) <|
    xl_cons (xk_bipush hc xd_148_59 (by decide)) <|
    xl_cons (xk_callV (Y := xm_y158) ho rfl (by decide) ⟨by decide, by decide⟩ xl_36 hc xd_148_61 rfl (b' := 1) rfl xm_nd158 (T := xm_T6) (N := 7) rfl xl_504 xl_424 xl_425) <|
    xl_cons (xk_ifCond hc xd_148_64 (by decide)) <|
    xl_cons (xk_iconst hc xd_148_67 (by decide)) <|
    xl_cons (xk_ireturn hc xd_148_68) <|
    xl_cons (xk_iconst hc xd_148_69 (by decide)) <|
    xl_cons (xk_istore_n hc xd_148_70 hm rfl (by decide)) <|
    xl_cons (xk_iload_n hc xd_148_71 rfl) <|
    xl_cons (xk_bipush hc xd_148_72 (by decide)) <|
    xl_cons (xk_if_icmp hc xd_148_74 (by decide)) (xl_nil)
set_option maxRecDepth 100000 in
theorem xo_148_1 : ∀ e ∈ ([(77, 2, .ldc 57, 0, 0, .ref 1, [], none),
  (79, 1, .aload_n 0, 0, 0, .null, [], none),
  (80, 3, .getfield 9, 7, 0, .null, [], none),
  (83, 3, .invokevirtual 59, 156, 1, .retAddr 0, [], none),
  (86, 3, .invokevirtual 63, 0, 0, .int 4, [], none),
  (89, 2, .istore 4, 4, 0, .null, [], none),
  (91, 2, .iload 4, 4, 0, .null, [], none),
  (93, 1, .iconst (-1), 0, 0, .int (-1), [], none),
  (94, 3, .if_icmp .ne 5, 99, 0, .null, [], none),
  (97, 1, .iconst 0, 0, 0, .int 0, [], none),
  (98, 1, .ireturn, 0, 0, .null, [], none),
  (99, 1, .aload_n 0, 0, 0, .null, [], none),
  (100, 3, .getfield 9, 7, 0, .null, [], none),
  (103, 3, .invokevirtual 46, 157, 1, .retAddr 0, [], none),
  (106, 1, .aload_n 0, 0, 0, .null, [], none),
  (107, 3, .getfield 15, 7, 1, .null, [], none),
  (110, 2, .iload 4, 4, 0, .null, [], none),
  (112, 1, .aload_n 0, 0, 0, .null, [], none),
  (113, 3, .getfield 9, 7, 0, .null, [], none),
  (116, 2, .bipush 63, 0, 0, .int 63, [], none),
  (118, 3, .invokevirtual 53, 158, 2, .retAddr 0, [], none),
  (121, 3, .invokevirtual 69, 105, 3, .retAddr 0, [], none),
  (124, 1, .aload_n 0, 0, 0, .null, [], none),
  (125, 3, .getfield 9, 7, 0, .null, [], none),
  (128, 2, .bipush 59, 0, 0, .int 59, [], none),
  (130, 3, .invokevirtual 53, 158, 2, .retAddr 0, [], none),
  (133, 3, .ifCond .eq 5, 138, 0, .null, [], none),
  (136, 1, .iconst 1, 0, 0, .int 1, [], none),
  (137, 1, .ireturn, 0, 0, .null, [], none),
  (138, 3, .iinc 3 1, 3, 0, .int 1, [], none),
  (141, 3, .goto (-70), 71, 0, .null, [], none),
  (144, 1, .iconst 0, 0, 0, .int 0, [], none),
  (145, 1, .ireturn, 0, 0, .null, [], none)] : List xr_E), xr_sd xm_P 148 e := by
  have hc : xp_cd xm_P 148 = prog_8_method_3_code := rfl
  have ho : xp_own xm_P 148 = "ExchangeText$SchemaReader" := rfl
  have hm : xp_ml xm_P 148 = 5 := rfl
  exact xl_cons (xk_ldcS hc xd_148_77 ho rfl rfl) <|
    xl_cons (xk_aload_n hc xd_148_79 rfl) <|
    xl_cons (xk_getfield (C := xm_C7) (T := xm_T7) (N := 2) hc xd_148_80 ho rfl (by decide) xm_u7 xl_490) <|
    xl_cons (xk_callV (Y := xm_y156) ho rfl (by decide) ⟨by decide, by decide⟩ xl_36 hc xd_148_83 rfl (b' := 0) rfl xm_nd156 (T := xm_T6) (N := 7) rfl xl_505 xl_447 xl_448) <|
    xl_cons (xk_ix hc xd_148_86 xm_rl148 ⟨xl_506, xl_ixT, by decide, by decide⟩) <|
    xl_cons (xk_istore hc xd_148_89 hm rfl (by decide)) <|
    xl_cons (xk_iload hc xd_148_91 rfl) <|
    xl_cons (xk_iconst hc xd_148_93 (by decide)) <|
    xl_cons (xk_if_icmp hc xd_148_94 (by decide)) <|
    xl_cons (xk_iconst hc xd_148_97 (by decide)) <|
    xl_cons (xk_ireturn hc xd_148_98) <|
    xl_cons (xk_aload_n hc xd_148_99 rfl) <|
    xl_cons (xk_getfield (C := xm_C7) (T := xm_T7) (N := 2) hc xd_148_100 ho rfl (by decide) xm_u7 xl_490) <|
    xl_cons (xk_callV (Y := xm_y157) ho rfl (by decide) ⟨by decide, by decide⟩ xl_36 hc xd_148_103 rfl (b' := 0) rfl xm_nd157 (T := xm_T6) (N := 7) rfl xl_500 xl_432 xl_433) <|
    xl_cons (xk_aload_n hc xd_148_106 rfl) <|
    xl_cons (xk_getfield (C := xm_C7) (T := xm_T7) (N := 2) hc xd_148_107 ho rfl (by decide) xm_u7 xl_491) <|
    xl_cons (xk_iload hc xd_148_110 rfl) <|
    xl_cons (xk_aload_n hc xd_148_112 rfl) <|
    xl_cons (xk_getfield (C := xm_C7) (T := xm_T7) (N := 2) hc xd_148_113 ho rfl (by decide) xm_u7 xl_490) <|
    xl_cons (xk_bipush hc xd_148_116 (by decide)) <|
    xl_cons (xk_callV (Y := xm_y158) ho rfl (by decide) ⟨by decide, by decide⟩ xl_36 hc xd_148_118 rfl (b' := 1) rfl xm_nd158 (T := xm_T6) (N := 7) rfl xl_504 xl_424 xl_425) <|
    xl_cons (xk_callV (Y := xm_y105) ho rfl (by decide) ⟨by decide, by decide⟩ xl_11 hc xd_148_121 rfl (b' := 2) rfl xm_nd105 (T := xm_T2) (N := 5) rfl xl_507 xl_508 xl_509) <|
    xl_cons (xk_aload_n hc xd_148_124 rfl) <|
    xl_cons (xk_getfield (C := xm_C7) (T := xm_T7) (N := 2) hc xd_148_125 ho rfl (by decide) xm_u7 xl_490) <|
    xl_cons (xk_bipush hc xd_148_128 (by decide)) <|
    xl_cons (xk_callV (Y := xm_y158) ho rfl (by decide) ⟨by decide, by decide⟩ xl_36 hc xd_148_130 rfl (b' := 1) rfl xm_nd158 (T := xm_T6) (N := 7) rfl xl_504 xl_424 xl_425) <|
    xl_cons (xk_ifCond hc xd_148_133 (by decide)) <|
    xl_cons (xk_iconst hc xd_148_136 (by decide)) <|
    xl_cons (xk_ireturn hc xd_148_137) <|
    xl_cons (xk_iinc hc xd_148_138 hm rfl (by decide) (by decide)) <|
    xl_cons (xk_goto hc xd_148_141 (by decide)) <|
    xl_cons (xk_iconst hc xd_148_144 (by decide)) <|
    xl_cons (xk_ireturn hc xd_148_145) (xl_nil)
theorem xo_148 : ∀ e ∈ xm_i148, xr_sd xm_P 148 e := xl_app xo_148_0 (xo_148_1)
set_option maxRecDepth 100000 in
theorem xo_149_0 : ∀ e ∈ ([(0, 1, .aload_n 0, 0, 0, .null, [], none),
  (1, 3, .invokespecial 3, 0, 0, .int 1, [], none),
  (4, 1, .aload_n 0, 0, 0, .null, [], none),
  (5, 3, .sipush 1200, 0, 0, .int 1200, [], none),
  (8, 2, .newarray .int, 0, 0, .null, [], none),
  (10, 3, .putfield 9, 6, 1, .null, [], none),
  (13, 1, .aload_n 0, 0, 0, .null, [], none),
  (14, 3, .sipush 1200, 0, 0, .int 1200, [], none),
  (17, 2, .newarray .int, 0, 0, .null, [], none),
  (19, 3, .putfield 15, 6, 2, .null, [], none),
  (22, 1, .aload_n 0, 0, 0, .null, [], none),
  (23, 3, .sipush 1200, 0, 0, .int 1200, [], none),
  (26, 2, .newarray .char, 2, 0, .null, [], none),
  (28, 3, .putfield 18, 6, 3, .null, [], none),
  (31, 1, .aload_n 0, 0, 0, .null, [], none),
  (32, 3, .sipush 1200, 0, 0, .int 1200, [], none),
  (35, 2, .newarray .int, 0, 0, .null, [], none),
  (37, 3, .putfield 22, 6, 4, .null, [], none),
  (40, 1, .aload_n 0, 0, 0, .null, [], none),
  (41, 1, .aload_n 1, 1, 0, .null, [], none),
  (42, 3, .putfield 25, 6, 0, .null, [], none),
  (45, 1, .return_, 0, 0, .null, [], none)] : List xr_E), xr_sd xm_P 149 e := by
  have hc : xp_cd xm_P 149 = prog_9_method_1_code := rfl
  have ho : xp_own xm_P 149 = "ExchangeText$Words" := rfl
  have hm : xp_ml xm_P 149 = 2 := rfl
  exact xl_cons (xk_aload_n hc xd_149_0 rfl) <|
    xl_cons (xk_objInit hc xd_149_1 ho xm_rl149 xl_510 xl_1 xl_2) <|
    xl_cons (xk_aload_n hc xd_149_4 rfl) <|
    xl_cons (xk_sipush hc xd_149_5 (by decide)) <|
    xl_cons (xk_newarray hc xd_149_8 (by decide) rfl xl_177) <|
    xl_cons (xk_putfieldF (C := xm_C6) (T := xm_T6) (N := 7) (ty := xm_ty6) hc xd_149_10 ho rfl (by decide) xm_u6 xm_tk6 rfl xm_nm6 xl_511 rfl rfl rfl) <|
    xl_cons (xk_aload_n hc xd_149_13 rfl) <|
    xl_cons (xk_sipush hc xd_149_14 (by decide)) <|
    xl_cons (xk_newarray hc xd_149_17 (by decide) rfl xl_177) <|
    xl_cons (xk_putfieldF (C := xm_C6) (T := xm_T6) (N := 7) (ty := xm_ty6) hc xd_149_19 ho rfl (by decide) xm_u6 xm_tk6 rfl xm_nm6 xl_512 rfl rfl rfl) <|
    xl_cons (xk_aload_n hc xd_149_22 rfl) <|
    xl_cons (xk_sipush hc xd_149_23 (by decide)) <|
    xl_cons (xk_newarray hc xd_149_26 (by decide) rfl xl_481) <|
    xl_cons (xk_putfieldF (C := xm_C6) (T := xm_T6) (N := 7) (ty := xm_ty6) hc xd_149_28 ho rfl (by decide) xm_u6 xm_tk6 rfl xm_nm6 xl_513 rfl rfl rfl) <|
    xl_cons (xk_aload_n hc xd_149_31 rfl) <|
    xl_cons (xk_sipush hc xd_149_32 (by decide)) <|
    xl_cons (xk_newarray hc xd_149_35 (by decide) rfl xl_177) <|
    xl_cons (xk_putfieldF (C := xm_C6) (T := xm_T6) (N := 7) (ty := xm_ty6) hc xd_149_37 ho rfl (by decide) xm_u6 xm_tk6 rfl xm_nm6 xl_514 rfl rfl rfl) <|
    xl_cons (xk_aload_n hc xd_149_40 rfl) <|
    xl_cons (xk_aload_n hc xd_149_41 rfl) <|
    xl_cons (xk_putfieldF (C := xm_C6) (T := xm_T6) (N := 7) (ty := xm_ty6) hc xd_149_42 ho rfl (by decide) xm_u6 xm_tk6 rfl xm_nm6 xl_515 rfl rfl rfl) <|
    xl_cons (xk_return_ hc xd_149_45) (xl_nil)
theorem xo_149 : ∀ e ∈ xm_i149, xr_sd xm_P 149 e := xo_149_0
set_option maxRecDepth 100000 in
theorem xo_150_0 : ∀ e ∈ ([(0, 1, .aload_n 0, 0, 0, .null, [], none),
  (1, 1, .iconst 0, 0, 0, .int 0, [], none),
  (2, 3, .putfield 29, 6, 5, .null, [], none),
  (5, 1, .aload_n 0, 0, 0, .null, [], none),
  (6, 1, .iconst 0, 0, 0, .int 0, [], none),
  (7, 3, .putfield 33, 6, 6, .null, [], none),
  (10, 1, .iconst 0, 0, 0, .int 0, [], none),
  (11, 1, .istore_n 2, 2, 0, .null, [], none),
  (12, 1, .iconst 0, 0, 0, .int 0, [], none),
  (13, 1, .istore_n 3, 3, 0, .null, [], none),
  (14, 1, .iconst 0, 0, 0, .int 0, [], none),
  (15, 2, .istore 4, 4, 0, .null, [], none),
  (17, 2, .iload 4, 4, 0, .null, [], none),
  (19, 3, .sipush 1200, 0, 0, .int 1200, [], none),
  (22, 3, .if_icmp .ge 181, 203, 0, .null, [], none),
  (25, 1, .iload_n 2, 2, 0, .null, [], none),
  (26, 1, .aload_n 0, 0, 0, .null, [], none),
  (27, 3, .getfield 25, 6, 0, .null, [], none),
  (30, 3, .getfield 36, 1, 1, .null, [], none),
  (33, 3, .if_icmp .ge 170, 203, 0, .null, [], none),
  (36, 1, .aload_n 0, 0, 0, .null, [], none),
  (37, 3, .getfield 25, 6, 0, .null, [], none),
  (40, 1, .iload_n 2, 2, 0, .null, [], none),
  (41, 3, .invokevirtual 41, 144, 2, .retAddr 0, [], none),
  (44, 2, .istore 5, 5, 0, .null, [], none),
  (46, 1, .iload_n 3, 3, 0, .null, [], none),
  (47, 3, .ifCond .eq 17, 64, 0, .null, [], none),
  (50, 2, .iload 5, 5, 0, .null, [], none),
  (52, 3, .invokestatic 45, 29, 1, .retAddr 3, [], none),
  (55, 3, .ifCond .eq 9, 64, 0, .null, [], none),
  (58, 1, .iload_n 2, 2, 0, .null, [], none),
  (59, 1, .iconst 1, 0, 0, .int 1, [], none),
  (60, 1, .iadd, 0, 0, .null, [], none),
  (61, 3, .goto 10, 71, 0, .null, [], none),
  (64, 1, .aload_n 0, 0, 0, .null, [], none),
  (65, 1, .iload_n 2, 2, 0, .null, [], none),
  (66, 2, .iload 5, 5, 0, .null, [], none),
  (68, 3, .invokevirtual 49, 151, 3, .retAddr 0, [], none),
  (71, 2, .istore 6, 6, 0, .null, [], none),
  (73, 2, .iload 5, 5, 0, .null, [], none)] : List xr_E), xr_sd xm_P 150 e := by
  have hc : xp_cd xm_P 150 = prog_9_method_2_code := rfl
  have ho : xp_own xm_P 150 = "ExchangeText$Words" := rfl
  have hm : xp_ml xm_P 150 = 7 := rfl
  exact xl_cons (xk_aload_n hc xd_150_0 rfl) <|
    xl_cons (xk_iconst hc xd_150_1 (by decide)) <|
    xl_cons (xk_putfield (C := xm_C6) (T := xm_T6) (N := 7) (ty := xm_ty6) hc xd_150_2 ho rfl (by decide) xm_u6 xm_tk6 rfl xm_nm6 xl_516 rfl) <|
    xl_cons (xk_aload_n hc xd_150_5 rfl) <|
    xl_cons (xk_iconst hc xd_150_6 (by decide)) <|
    xl_cons (xk_putfield (C := xm_C6) (T := xm_T6) (N := 7) (ty := xm_ty6) hc xd_150_7 ho rfl (by decide) xm_u6 xm_tk6 rfl xm_nm6 xl_517 rfl) <|
    xl_cons (xk_iconst hc xd_150_10 (by decide)) <|
    xl_cons (xk_istore_n hc xd_150_11 hm rfl (by decide)) <|
    xl_cons (xk_iconst hc xd_150_12 (by decide)) <|
    xl_cons (xk_istore_n hc xd_150_13 hm rfl (by decide)) <|
    xl_cons (xk_iconst hc xd_150_14 (by decide)) <|
    xl_cons (xk_istore hc xd_150_15 hm rfl (by decide)) <|
    xl_cons (xk_iload hc xd_150_17 rfl) <|
    xl_cons (xk_sipush hc xd_150_19 (by decide)) <|
    xl_cons (xk_if_icmp hc xd_150_22 (by decide)) <|
    xl_cons (xk_iload_n hc xd_150_25 rfl) <|
    xl_cons (xk_aload_n hc xd_150_26 rfl) <|
    xl_cons (xk_getfield (C := xm_C6) (T := xm_T6) (N := 7) hc xd_150_27 ho rfl (by decide) xm_u6 xl_515) <|
    xl_cons (xk_getfield (C := xm_C1) (T := xm_T1) (N := 3) hc xd_150_30 ho rfl (by decide) xm_u1 xl_518) <|
    xl_cons (xk_if_icmp hc xd_150_33 (by decide)) <|
    xl_cons (xk_aload_n hc xd_150_36 rfl) <|
    xl_cons (xk_getfield (C := xm_C6) (T := xm_T6) (N := 7) hc xd_150_37 ho rfl (by decide) xm_u6 xl_515) <|
    xl_cons (xk_iload_n hc xd_150_40 rfl) <|
    xl_cons (xk_callV (Y := xm_y144) ho rfl (by decide) ⟨by decide, by decide⟩ xl_5 hc xd_150_41 rfl (b' := 1) rfl xm_nd144 (T := xm_T1) (N := 3) rfl xl_519 xl_63 xl_64) <|
    xl_cons (xk_istore hc xd_150_44 hm rfl (by decide)) <|
    xl_cons (xk_iload_n hc xd_150_46 rfl) <|
    xl_cons (xk_ifCond hc xd_150_47 (by decide)) <|
    xl_cons (xk_iload hc xd_150_50 rfl) <|
    xl_cons (xk_callSN (Y := xm_y29) ho rfl (by decide) ⟨by decide, by decide⟩ xl_52 hc xd_150_52 rfl xm_nd29 xz_13 xl_520) <|
    xl_cons (xk_ifCond hc xd_150_55 (by decide)) <|
    xl_cons (xk_iload_n hc xd_150_58 rfl) <|
    xl_cons (xk_iconst hc xd_150_59 (by decide)) <|
    xl_cons (xk_iadd hc xd_150_60) <|
    xl_cons (xk_goto hc xd_150_61 (by decide)) <|
    xl_cons (xk_aload_n hc xd_150_64 rfl) <|
    xl_cons (xk_iload_n hc xd_150_65 rfl) <|
    xl_cons (xk_iload hc xd_150_66 rfl) <|
    xl_cons (xk_callV (Y := xm_y151) ho rfl (by decide) ⟨by decide, by decide⟩ xl_36 hc xd_150_68 rfl (b' := 2) rfl xm_nd151 (T := xm_T6) (N := 7) rfl xl_521 xl_522 xl_523) <|
    xl_cons (xk_istore hc xd_150_71 hm rfl (by decide)) <|
    xl_cons (xk_iload hc xd_150_73 rfl) (xl_nil)
set_option maxRecDepth 100000 in
theorem xo_150_1 : ∀ e ∈ ([(75, 2, .bipush 32, 0, 0, .int 32, [], none),
  (77, 3, .if_icmp .eq 73, 150, 0, .null, [], none),
  (80, 1, .aload_n 0, 0, 0, .null, [], none),
  (81, 3, .getfield 9, 6, 1, .null, [], none),
  (84, 1, .aload_n 0, 0, 0, .null, [], none),
  (85, 3, .getfield 29, 6, 5, .null, [], none),
  (88, 1, .iload_n 2, 2, 0, .null, [], none),
  (89, 1, .iastore, 0, 0, .null, [], none),
  (90, 1, .aload_n 0, 0, 0, .null, [], none),
  (91, 3, .getfield 15, 6, 2, .null, [], none),
  (94, 1, .aload_n 0, 0, 0, .null, [], none),
  (95, 3, .getfield 29, 6, 5, .null, [], none),
  (98, 2, .iload 6, 6, 0, .null, [], none),
  (100, 1, .iastore, 0, 0, .null, [], none),
  (101, 1, .aload_n 0, 0, 0, .null, [], none),
  (102, 3, .getfield 18, 6, 3, .null, [], none),
  (105, 1, .aload_n 0, 0, 0, .null, [], none),
  (106, 3, .getfield 29, 6, 5, .null, [], none),
  (109, 2, .iload 5, 5, 0, .null, [], none),
  (111, 1, .castore, 0, 0, .null, [], none),
  (112, 1, .aload_n 0, 0, 0, .null, [], none),
  (113, 3, .getfield 22, 6, 4, .null, [], none),
  (116, 1, .aload_n 0, 0, 0, .null, [], none),
  (117, 3, .getfield 29, 6, 5, .null, [], none),
  (120, 2, .iload 5, 5, 0, .null, [], none),
  (122, 3, .invokestatic 53, 28, 1, .retAddr 3, [], none),
  (125, 3, .ifCond .eq 13, 138, 0, .null, [], none),
  (128, 1, .aload_n 0, 0, 0, .null, [], none),
  (129, 1, .iload_n 2, 2, 0, .null, [], none),
  (130, 2, .iload 6, 6, 0, .null, [], none),
  (132, 3, .invokevirtual 56, 153, 3, .retAddr 0, [], none),
  (135, 3, .goto 4, 139, 0, .null, [], none),
  (138, 1, .iconst (-1), 0, 0, .int (-1), [], none),
  (139, 1, .iastore, 0, 0, .null, [], none),
  (140, 1, .aload_n 0, 0, 0, .null, [], none),
  (141, 1, .dup, 0, 0, .null, [], none),
  (142, 3, .getfield 29, 6, 5, .null, [], none),
  (145, 1, .iconst 1, 0, 0, .int 1, [], none),
  (146, 1, .iadd, 0, 0, .null, [], none),
  (147, 3, .putfield 29, 6, 5, .null, [], none)] : List xr_E), xr_sd xm_P 150 e := by
  have hc : xp_cd xm_P 150 = prog_9_method_2_code := rfl
  have ho : xp_own xm_P 150 = "ExchangeText$Words" := rfl
  have hm : xp_ml xm_P 150 = 7 := rfl
  exact xl_cons (xk_bipush hc xd_150_75 (by decide)) <|
    xl_cons (xk_if_icmp hc xd_150_77 (by decide)) <|
    xl_cons (xk_aload_n hc xd_150_80 rfl) <|
    xl_cons (xk_getfield (C := xm_C6) (T := xm_T6) (N := 7) hc xd_150_81 ho rfl (by decide) xm_u6 xl_511) <|
    xl_cons (xk_aload_n hc xd_150_84 rfl) <|
    xl_cons (xk_getfield (C := xm_C6) (T := xm_T6) (N := 7) hc xd_150_85 ho rfl (by decide) xm_u6 xl_516) <|
    xl_cons (xk_iload_n hc xd_150_88 rfl) <|
    xl_cons (xk_iastore hc xd_150_89) <|
    xl_cons (xk_aload_n hc xd_150_90 rfl) <|
    xl_cons (xk_getfield (C := xm_C6) (T := xm_T6) (N := 7) hc xd_150_91 ho rfl (by decide) xm_u6 xl_512) <|
    xl_cons (xk_aload_n hc xd_150_94 rfl) <|
    xl_cons (xk_getfield (C := xm_C6) (T := xm_T6) (N := 7) hc xd_150_95 ho rfl (by decide) xm_u6 xl_516) <|
    xl_cons (xk_iload hc xd_150_98 rfl) <|
    xl_cons (xk_iastore hc xd_150_100) <|
    xl_cons (xk_aload_n hc xd_150_101 rfl) <|
    xl_cons (xk_getfield (C := xm_C6) (T := xm_T6) (N := 7) hc xd_150_102 ho rfl (by decide) xm_u6 xl_513) <|
    xl_cons (xk_aload_n hc xd_150_105 rfl) <|
    xl_cons (xk_getfield (C := xm_C6) (T := xm_T6) (N := 7) hc xd_150_106 ho rfl (by decide) xm_u6 xl_516) <|
    xl_cons (xk_iload hc xd_150_109 rfl) <|
    xl_cons (xk_castore hc xd_150_111) <|
    xl_cons (xk_aload_n hc xd_150_112 rfl) <|
    xl_cons (xk_getfield (C := xm_C6) (T := xm_T6) (N := 7) hc xd_150_113 ho rfl (by decide) xm_u6 xl_514) <|
    xl_cons (xk_aload_n hc xd_150_116 rfl) <|
    xl_cons (xk_getfield (C := xm_C6) (T := xm_T6) (N := 7) hc xd_150_117 ho rfl (by decide) xm_u6 xl_516) <|
    xl_cons (xk_iload hc xd_150_120 rfl) <|
    xl_cons (xk_callSN (Y := xm_y28) ho rfl (by decide) ⟨by decide, by decide⟩ xl_52 hc xd_150_122 rfl xm_nd28 xz_14 xl_524) <|
    xl_cons (xk_ifCond hc xd_150_125 (by decide)) <|
    xl_cons (xk_aload_n hc xd_150_128 rfl) <|
    xl_cons (xk_iload_n hc xd_150_129 rfl) <|
    xl_cons (xk_iload hc xd_150_130 rfl) <|
    xl_cons (xk_callV (Y := xm_y153) ho rfl (by decide) ⟨by decide, by decide⟩ xl_36 hc xd_150_132 rfl (b' := 2) rfl xm_nd153 (T := xm_T6) (N := 7) rfl xl_525 xl_526 xl_527) <|
    xl_cons (xk_goto hc xd_150_135 (by decide)) <|
    xl_cons (xk_iconst hc xd_150_138 (by decide)) <|
    xl_cons (xk_iastore hc xd_150_139) <|
    xl_cons (xk_aload_n hc xd_150_140 rfl) <|
    xl_cons (xk_dup hc xd_150_141) <|
    xl_cons (xk_getfield (C := xm_C6) (T := xm_T6) (N := 7) hc xd_150_142 ho rfl (by decide) xm_u6 xl_516) <|
    xl_cons (xk_iconst hc xd_150_145 (by decide)) <|
    xl_cons (xk_iadd hc xd_150_146) <|
    xl_cons (xk_putfield (C := xm_C6) (T := xm_T6) (N := 7) (ty := xm_ty6) hc xd_150_147 ho rfl (by decide) xm_u6 xm_tk6 rfl xm_nm6 xl_516 rfl) (xl_nil)
set_option maxRecDepth 100000 in
theorem xo_150_2 : ∀ e ∈ ([(150, 2, .iload 5, 5, 0, .null, [], none),
  (152, 2, .bipush 61, 0, 0, .int 61, [], none),
  (154, 3, .if_icmp .ne 7, 161, 0, .null, [], none),
  (157, 1, .iload_n 1, 1, 0, .null, [], none),
  (158, 3, .goto 19, 177, 0, .null, [], none),
  (161, 1, .iload_n 3, 3, 0, .null, [], none),
  (162, 3, .ifCond .eq 14, 176, 0, .null, [], none),
  (165, 2, .iload 5, 5, 0, .null, [], none),
  (167, 2, .bipush 59, 0, 0, .int 59, [], none),
  (169, 3, .if_icmp .eq 7, 176, 0, .null, [], none),
  (172, 1, .iconst 1, 0, 0, .int 1, [], none),
  (173, 3, .goto 4, 177, 0, .null, [], none),
  (176, 1, .iconst 0, 0, 0, .int 0, [], none),
  (177, 1, .istore_n 3, 3, 0, .null, [], none),
  (178, 2, .iload 6, 6, 0, .null, [], none),
  (180, 1, .iconst (-1), 0, 0, .int (-1), [], none),
  (181, 3, .if_icmp .ne 13, 194, 0, .null, [], none),
  (184, 1, .aload_n 0, 0, 0, .null, [], none),
  (185, 3, .getfield 25, 6, 0, .null, [], none),
  (188, 3, .getfield 36, 1, 1, .null, [], none),
  (191, 3, .goto 5, 196, 0, .null, [], none),
  (194, 2, .iload 6, 6, 0, .null, [], none),
  (196, 1, .istore_n 2, 2, 0, .null, [], none),
  (197, 3, .iinc 4 1, 4, 0, .int 1, [], none),
  (200, 3, .goto (-183), 17, 0, .null, [], none),
  (203, 1, .return_, 0, 0, .null, [], none)] : List xr_E), xr_sd xm_P 150 e := by
  have hc : xp_cd xm_P 150 = prog_9_method_2_code := rfl
  have ho : xp_own xm_P 150 = "ExchangeText$Words" := rfl
  have hm : xp_ml xm_P 150 = 7 := rfl
  exact xl_cons (xk_iload hc xd_150_150 rfl) <|
    xl_cons (xk_bipush hc xd_150_152 (by decide)) <|
    xl_cons (xk_if_icmp hc xd_150_154 (by decide)) <|
    xl_cons (xk_iload_n hc xd_150_157 rfl) <|
    xl_cons (xk_goto hc xd_150_158 (by decide)) <|
    xl_cons (xk_iload_n hc xd_150_161 rfl) <|
    xl_cons (xk_ifCond hc xd_150_162 (by decide)) <|
    xl_cons (xk_iload hc xd_150_165 rfl) <|
    xl_cons (xk_bipush hc xd_150_167 (by decide)) <|
    xl_cons (xk_if_icmp hc xd_150_169 (by decide)) <|
    xl_cons (xk_iconst hc xd_150_172 (by decide)) <|
    xl_cons (xk_goto hc xd_150_173 (by decide)) <|
    xl_cons (xk_iconst hc xd_150_176 (by decide)) <|
    xl_cons (xk_istore_n hc xd_150_177 hm rfl (by decide)) <|
    xl_cons (xk_iload hc xd_150_178 rfl) <|
    xl_cons (xk_iconst hc xd_150_180 (by decide)) <|
    xl_cons (xk_if_icmp hc xd_150_181 (by decide)) <|
    xl_cons (xk_aload_n hc xd_150_184 rfl) <|
    xl_cons (xk_getfield (C := xm_C6) (T := xm_T6) (N := 7) hc xd_150_185 ho rfl (by decide) xm_u6 xl_515) <|
    xl_cons (xk_getfield (C := xm_C1) (T := xm_T1) (N := 3) hc xd_150_188 ho rfl (by decide) xm_u1 xl_518) <|
    xl_cons (xk_goto hc xd_150_191 (by decide)) <|
    xl_cons (xk_iload hc xd_150_194 rfl) <|
    xl_cons (xk_istore_n hc xd_150_196 hm rfl (by decide)) <|
    xl_cons (xk_iinc hc xd_150_197 hm rfl (by decide) (by decide)) <|
    xl_cons (xk_goto hc xd_150_200 (by decide)) <|
    xl_cons (xk_return_ hc xd_150_203) (xl_nil)
theorem xo_150 : ∀ e ∈ xm_i150, xr_sd xm_P 150 e := xl_app xo_150_0 (xl_app xo_150_1 (xo_150_2))
set_option maxRecDepth 100000 in
theorem xo_151_0 : ∀ e ∈ ([(0, 1, .iload_n 2, 2, 0, .null, [], none),
  (1, 2, .bipush 39, 0, 0, .int 39, [], none),
  (3, 3, .if_icmp .ne 9, 12, 0, .null, [], none),
  (6, 1, .aload_n 0, 0, 0, .null, [], none),
  (7, 1, .iload_n 1, 1, 0, .null, [], none),
  (8, 3, .invokevirtual 60, 152, 2, .retAddr 0, [], none),
  (11, 1, .ireturn, 0, 0, .null, [], none),
  (12, 1, .iload_n 1, 1, 0, .null, [], none),
  (13, 1, .iconst 1, 0, 0, .int 1, [], none),
  (14, 1, .iadd, 0, 0, .null, [], none),
  (15, 1, .istore_n 3, 3, 0, .null, [], none),
  (16, 1, .iload_n 2, 2, 0, .null, [], none),
  (17, 3, .invokestatic 53, 28, 1, .retAddr 3, [], none),
  (20, 3, .ifCond .eq 34, 54, 0, .null, [], none),
  (23, 1, .iload_n 3, 3, 0, .null, [], none),
  (24, 1, .aload_n 0, 0, 0, .null, [], none),
  (25, 3, .getfield 25, 6, 0, .null, [], none),
  (28, 3, .getfield 36, 1, 1, .null, [], none),
  (31, 3, .if_icmp .ge 61, 92, 0, .null, [], none),
  (34, 1, .aload_n 0, 0, 0, .null, [], none),
  (35, 3, .getfield 25, 6, 0, .null, [], none),
  (38, 1, .iload_n 3, 3, 0, .null, [], none),
  (39, 3, .invokevirtual 41, 144, 2, .retAddr 0, [], none),
  (42, 3, .invokestatic 53, 28, 1, .retAddr 3, [], none),
  (45, 3, .ifCond .eq 47, 92, 0, .null, [], none),
  (48, 3, .iinc 3 1, 3, 0, .int 1, [], none),
  (51, 3, .goto (-28), 23, 0, .null, [], none),
  (54, 1, .iload_n 2, 2, 0, .null, [], none),
  (55, 3, .invokestatic 45, 29, 1, .retAddr 3, [], none),
  (58, 3, .ifCond .eq 34, 92, 0, .null, [], none),
  (61, 1, .iload_n 3, 3, 0, .null, [], none),
  (62, 1, .aload_n 0, 0, 0, .null, [], none),
  (63, 3, .getfield 25, 6, 0, .null, [], none),
  (66, 3, .getfield 36, 1, 1, .null, [], none),
  (69, 3, .if_icmp .ge 23, 92, 0, .null, [], none),
  (72, 1, .aload_n 0, 0, 0, .null, [], none),
  (73, 3, .getfield 25, 6, 0, .null, [], none),
  (76, 1, .iload_n 3, 3, 0, .null, [], none),
  (77, 3, .invokevirtual 41, 144, 2, .retAddr 0, [], none),
  (80, 3, .invokestatic 45, 29, 1, .retAddr 3, [], none)] : List xr_E), xr_sd xm_P 151 e := by
  have hc : xp_cd xm_P 151 = prog_9_method_3_code := rfl
  have ho : xp_own xm_P 151 = "ExchangeText$Words" := rfl
  have hm : xp_ml xm_P 151 = 4 := rfl
  exact xl_cons (xk_iload_n hc xd_151_0 rfl) <|
    xl_cons (xk_bipush hc xd_151_1 (by decide)) <|
    xl_cons (xk_if_icmp hc xd_151_3 (by decide)) <|
    xl_cons (xk_aload_n hc xd_151_6 rfl) <|
    xl_cons (xk_iload_n hc xd_151_7 rfl) <|
    xl_cons (xk_callV (Y := xm_y152) ho rfl (by decide) ⟨by decide, by decide⟩ xl_36 hc xd_151_8 rfl (b' := 1) rfl xm_nd152 (T := xm_T6) (N := 7) rfl xl_528 xl_529 xl_530) <|
    xl_cons (xk_ireturn hc xd_151_11) <|
    xl_cons (xk_iload_n hc xd_151_12 rfl) <|
    xl_cons (xk_iconst hc xd_151_13 (by decide)) <|
    xl_cons (xk_iadd hc xd_151_14) <|
    xl_cons (xk_istore_n hc xd_151_15 hm rfl (by decide)) <|
    xl_cons (xk_iload_n hc xd_151_16 rfl) <|
    xl_cons (xk_callSN (Y := xm_y28) ho rfl (by decide) ⟨by decide, by decide⟩ xl_52 hc xd_151_17 rfl xm_nd28 xz_14 xl_524) <|
    xl_cons (xk_ifCond hc xd_151_20 (by decide)) <|
    xl_cons (xk_iload_n hc xd_151_23 rfl) <|
    xl_cons (xk_aload_n hc xd_151_24 rfl) <|
    xl_cons (xk_getfield (C := xm_C6) (T := xm_T6) (N := 7) hc xd_151_25 ho rfl (by decide) xm_u6 xl_515) <|
    xl_cons (xk_getfield (C := xm_C1) (T := xm_T1) (N := 3) hc xd_151_28 ho rfl (by decide) xm_u1 xl_518) <|
    xl_cons (xk_if_icmp hc xd_151_31 (by decide)) <|
    xl_cons (xk_aload_n hc xd_151_34 rfl) <|
    xl_cons (xk_getfield (C := xm_C6) (T := xm_T6) (N := 7) hc xd_151_35 ho rfl (by decide) xm_u6 xl_515) <|
    xl_cons (xk_iload_n hc xd_151_38 rfl) <|
    xl_cons (xk_callV (Y := xm_y144) ho rfl (by decide) ⟨by decide, by decide⟩ xl_5 hc xd_151_39 rfl (b' := 1) rfl xm_nd144 (T := xm_T1) (N := 3) rfl xl_519 xl_63 xl_64) <|
    xl_cons (xk_callSN (Y := xm_y28) ho rfl (by decide) ⟨by decide, by decide⟩ xl_52 hc xd_151_42 rfl xm_nd28 xz_14 xl_524) <|
    xl_cons (xk_ifCond hc xd_151_45 (by decide)) <|
    xl_cons (xk_iinc hc xd_151_48 hm rfl (by decide) (by decide)) <|
    xl_cons (xk_goto hc xd_151_51 (by decide)) <|
    xl_cons (xk_iload_n hc xd_151_54 rfl) <|
    xl_cons (xk_callSN (Y := xm_y29) ho rfl (by decide) ⟨by decide, by decide⟩ xl_52 hc xd_151_55 rfl xm_nd29 xz_13 xl_520) <|
    xl_cons (xk_ifCond hc xd_151_58 (by decide)) <|
    xl_cons (xk_iload_n hc xd_151_61 rfl) <|
    xl_cons (xk_aload_n hc xd_151_62 rfl) <|
    xl_cons (xk_getfield (C := xm_C6) (T := xm_T6) (N := 7) hc xd_151_63 ho rfl (by decide) xm_u6 xl_515) <|
    xl_cons (xk_getfield (C := xm_C1) (T := xm_T1) (N := 3) hc xd_151_66 ho rfl (by decide) xm_u1 xl_518) <|
    xl_cons (xk_if_icmp hc xd_151_69 (by decide)) <|
    xl_cons (xk_aload_n hc xd_151_72 rfl) <|
    xl_cons (xk_getfield (C := xm_C6) (T := xm_T6) (N := 7) hc xd_151_73 ho rfl (by decide) xm_u6 xl_515) <|
    xl_cons (xk_iload_n hc xd_151_76 rfl) <|
    xl_cons (xk_callV (Y := xm_y144) ho rfl (by decide) ⟨by decide, by decide⟩ xl_5 hc xd_151_77 rfl (b' := 1) rfl xm_nd144 (T := xm_T1) (N := 3) rfl xl_519 xl_63 xl_64) <|
    xl_cons (xk_callSN (Y := xm_y29) ho rfl (by decide) ⟨by decide, by decide⟩ xl_52 hc xd_151_80 rfl xm_nd29 xz_13 xl_520) (xl_nil)
set_option maxRecDepth 100000 in
theorem xo_151_1 : ∀ e ∈ ([(83, 3, .ifCond .eq 9, 92, 0, .null, [], none),
  (86, 3, .iinc 3 1, 3, 0, .int 1, [], none),
  (89, 3, .goto (-28), 61, 0, .null, [], none),
  (92, 1, .iload_n 3, 3, 0, .null, [], none),
  (93, 1, .ireturn, 0, 0, .null, [], none)] : List xr_E), xr_sd xm_P 151 e := by
  have hc : xp_cd xm_P 151 = prog_9_method_3_code := rfl
  have ho : xp_own xm_P 151 = "ExchangeText$Words" := rfl
  have hm : xp_ml xm_P 151 = 4 := rfl
  exact xl_cons (xk_ifCond hc xd_151_83 (by decide)) <|
    xl_cons (xk_iinc hc xd_151_86 hm rfl (by decide) (by decide)) <|
    xl_cons (xk_goto hc xd_151_89 (by decide)) <|
    xl_cons (xk_iload_n hc xd_151_92 rfl) <|
    xl_cons (xk_ireturn hc xd_151_93) (xl_nil)
theorem xo_151 : ∀ e ∈ xm_i151, xr_sd xm_P 151 e := xl_app xo_151_0 (xo_151_1)
set_option maxRecDepth 100000 in
theorem xo_152_0 : ∀ e ∈ ([(0, 1, .iload_n 1, 1, 0, .null, [], none),
  (1, 1, .iconst 1, 0, 0, .int 1, [], none),
  (2, 1, .iadd, 0, 0, .null, [], none),
  (3, 1, .istore_n 2, 2, 0, .null, [], none),
  (4, 1, .iload_n 2, 2, 0, .null, [], none),
  (5, 1, .aload_n 0, 0, 0, .null, [], none),
  (6, 3, .getfield 25, 6, 0, .null, [], none),
  (9, 3, .getfield 36, 1, 1, .null, [], none),
  (12, 3, .if_icmp .ge 44, 56, 0, .null, [], none),
  (15, 1, .aload_n 0, 0, 0, .null, [], none),
  (16, 3, .getfield 25, 6, 0, .null, [], none),
  (19, 1, .iload_n 2, 2, 0, .null, [], none),
  (20, 3, .invokevirtual 41, 144, 2, .retAddr 0, [], none),
  (23, 2, .bipush 39, 0, 0, .int 39, [], none),
  (25, 3, .if_icmp .ne 25, 50, 0, .null, [], none),
  (28, 1, .aload_n 0, 0, 0, .null, [], none),
  (29, 3, .getfield 25, 6, 0, .null, [], none),
  (32, 1, .iload_n 2, 2, 0, .null, [], none),
  (33, 1, .iconst 1, 0, 0, .int 1, [], none),
  (34, 1, .iadd, 0, 0, .null, [], none),
  (35, 3, .invokevirtual 41, 144, 2, .retAddr 0, [], none),
  (38, 2, .bipush 39, 0, 0, .int 39, [], none),
  (40, 3, .if_icmp .eq 7, 47, 0, .null, [], none),
  (43, 1, .iload_n 2, 2, 0, .null, [], none),
  (44, 1, .iconst 1, 0, 0, .int 1, [], none),
  (45, 1, .iadd, 0, 0, .null, [], none),
  (46, 1, .ireturn, 0, 0, .null, [], none),
  (47, 3, .iinc 2 1, 2, 0, .int 1, [], none),
  (50, 3, .iinc 2 1, 2, 0, .int 1, [], none),
  (53, 3, .goto (-49), 4, 0, .null, [], none),
  (56, 1, .iconst (-1), 0, 0, .int (-1), [], none),
  (57, 1, .ireturn, 0, 0, .null, [], none)] : List xr_E), xr_sd xm_P 152 e := by
  have hc : xp_cd xm_P 152 = prog_9_method_4_code := rfl
  have ho : xp_own xm_P 152 = "ExchangeText$Words" := rfl
  have hm : xp_ml xm_P 152 = 3 := rfl
  exact xl_cons (xk_iload_n hc xd_152_0 rfl) <|
    xl_cons (xk_iconst hc xd_152_1 (by decide)) <|
    xl_cons (xk_iadd hc xd_152_2) <|
    xl_cons (xk_istore_n hc xd_152_3 hm rfl (by decide)) <|
    xl_cons (xk_iload_n hc xd_152_4 rfl) <|
    xl_cons (xk_aload_n hc xd_152_5 rfl) <|
    xl_cons (xk_getfield (C := xm_C6) (T := xm_T6) (N := 7) hc xd_152_6 ho rfl (by decide) xm_u6 xl_515) <|
    xl_cons (xk_getfield (C := xm_C1) (T := xm_T1) (N := 3) hc xd_152_9 ho rfl (by decide) xm_u1 xl_518) <|
    xl_cons (xk_if_icmp hc xd_152_12 (by decide)) <|
    xl_cons (xk_aload_n hc xd_152_15 rfl) <|
    xl_cons (xk_getfield (C := xm_C6) (T := xm_T6) (N := 7) hc xd_152_16 ho rfl (by decide) xm_u6 xl_515) <|
    xl_cons (xk_iload_n hc xd_152_19 rfl) <|
    xl_cons (xk_callV (Y := xm_y144) ho rfl (by decide) ⟨by decide, by decide⟩ xl_5 hc xd_152_20 rfl (b' := 1) rfl xm_nd144 (T := xm_T1) (N := 3) rfl xl_519 xl_63 xl_64) <|
    xl_cons (xk_bipush hc xd_152_23 (by decide)) <|
    xl_cons (xk_if_icmp hc xd_152_25 (by decide)) <|
    xl_cons (xk_aload_n hc xd_152_28 rfl) <|
    xl_cons (xk_getfield (C := xm_C6) (T := xm_T6) (N := 7) hc xd_152_29 ho rfl (by decide) xm_u6 xl_515) <|
    xl_cons (xk_iload_n hc xd_152_32 rfl) <|
    xl_cons (xk_iconst hc xd_152_33 (by decide)) <|
    xl_cons (xk_iadd hc xd_152_34) <|
    xl_cons (xk_callV (Y := xm_y144) ho rfl (by decide) ⟨by decide, by decide⟩ xl_5 hc xd_152_35 rfl (b' := 1) rfl xm_nd144 (T := xm_T1) (N := 3) rfl xl_519 xl_63 xl_64) <|
    xl_cons (xk_bipush hc xd_152_38 (by decide)) <|
    xl_cons (xk_if_icmp hc xd_152_40 (by decide)) <|
    xl_cons (xk_iload_n hc xd_152_43 rfl) <|
    xl_cons (xk_iconst hc xd_152_44 (by decide)) <|
    xl_cons (xk_iadd hc xd_152_45) <|
    xl_cons (xk_ireturn hc xd_152_46) <|
    xl_cons (xk_iinc hc xd_152_47 hm rfl (by decide) (by decide)) <|
    xl_cons (xk_iinc hc xd_152_50 hm rfl (by decide) (by decide)) <|
    xl_cons (xk_goto hc xd_152_53 (by decide)) <|
    xl_cons (xk_iconst hc xd_152_56 (by decide)) <|
    xl_cons (xk_ireturn hc xd_152_57) (xl_nil)
theorem xo_152 : ∀ e ∈ xm_i152, xr_sd xm_P 152 e := xo_152_0
set_option maxRecDepth 100000 in
theorem xo_153_0 : ∀ e ∈ ([(0, 1, .iload_n 2, 2, 0, .null, [], none),
  (1, 1, .iload_n 1, 1, 0, .null, [], none),
  (2, 1, .isub, 0, 0, .null, [], none),
  (3, 2, .bipush 9, 0, 0, .int 9, [], none),
  (5, 3, .if_icmp .le 5, 10, 0, .null, [], none),
  (8, 1, .iconst (-1), 0, 0, .int (-1), [], none),
  (9, 1, .ireturn, 0, 0, .null, [], none),
  (10, 1, .iconst 0, 0, 0, .int 0, [], none),
  (11, 1, .istore_n 3, 3, 0, .null, [], none),
  (12, 1, .iload_n 1, 1, 0, .null, [], none),
  (13, 2, .istore 4, 4, 0, .null, [], none),
  (15, 2, .iload 4, 4, 0, .null, [], none),
  (17, 1, .iload_n 2, 2, 0, .null, [], none),
  (18, 3, .if_icmp .ge 27, 45, 0, .null, [], none),
  (21, 1, .iload_n 3, 3, 0, .null, [], none),
  (22, 2, .bipush 10, 0, 0, .int 10, [], none),
  (24, 1, .imul, 0, 0, .null, [], none),
  (25, 1, .aload_n 0, 0, 0, .null, [], none),
  (26, 3, .getfield 25, 6, 0, .null, [], none),
  (29, 2, .iload 4, 4, 0, .null, [], none),
  (31, 3, .invokevirtual 41, 144, 2, .retAddr 0, [], none),
  (34, 1, .iadd, 0, 0, .null, [], none),
  (35, 2, .bipush 48, 0, 0, .int 48, [], none),
  (37, 1, .isub, 0, 0, .null, [], none),
  (38, 1, .istore_n 3, 3, 0, .null, [], none),
  (39, 3, .iinc 4 1, 4, 0, .int 1, [], none),
  (42, 3, .goto (-27), 15, 0, .null, [], none),
  (45, 1, .iload_n 3, 3, 0, .null, [], none),
  (46, 1, .ireturn, 0, 0, .null, [], none)] : List xr_E), xr_sd xm_P 153 e := by
  have hc : xp_cd xm_P 153 = prog_9_method_5_code := rfl
  have ho : xp_own xm_P 153 = "ExchangeText$Words" := rfl
  have hm : xp_ml xm_P 153 = 5 := rfl
  exact xl_cons (xk_iload_n hc xd_153_0 rfl) <|
    xl_cons (xk_iload_n hc xd_153_1 rfl) <|
    xl_cons (xk_isub hc xd_153_2) <|
    xl_cons (xk_bipush hc xd_153_3 (by decide)) <|
    xl_cons (xk_if_icmp hc xd_153_5 (by decide)) <|
    xl_cons (xk_iconst hc xd_153_8 (by decide)) <|
    xl_cons (xk_ireturn hc xd_153_9) <|
    xl_cons (xk_iconst hc xd_153_10 (by decide)) <|
    xl_cons (xk_istore_n hc xd_153_11 hm rfl (by decide)) <|
    xl_cons (xk_iload_n hc xd_153_12 rfl) <|
    xl_cons (xk_istore hc xd_153_13 hm rfl (by decide)) <|
    xl_cons (xk_iload hc xd_153_15 rfl) <|
    xl_cons (xk_iload_n hc xd_153_17 rfl) <|
    xl_cons (xk_if_icmp hc xd_153_18 (by decide)) <|
    xl_cons (xk_iload_n hc xd_153_21 rfl) <|
    xl_cons (xk_bipush hc xd_153_22 (by decide)) <|
    xl_cons (xk_imul hc xd_153_24) <|
    xl_cons (xk_aload_n hc xd_153_25 rfl) <|
    xl_cons (xk_getfield (C := xm_C6) (T := xm_T6) (N := 7) hc xd_153_26 ho rfl (by decide) xm_u6 xl_515) <|
    xl_cons (xk_iload hc xd_153_29 rfl) <|
    xl_cons (xk_callV (Y := xm_y144) ho rfl (by decide) ⟨by decide, by decide⟩ xl_5 hc xd_153_31 rfl (b' := 1) rfl xm_nd144 (T := xm_T1) (N := 3) rfl xl_519 xl_63 xl_64) <|
    xl_cons (xk_iadd hc xd_153_34) <|
    xl_cons (xk_bipush hc xd_153_35 (by decide)) <|
    xl_cons (xk_isub hc xd_153_37) <|
    xl_cons (xk_istore_n hc xd_153_38 hm rfl (by decide)) <|
    xl_cons (xk_iinc hc xd_153_39 hm rfl (by decide) (by decide)) <|
    xl_cons (xk_goto hc xd_153_42 (by decide)) <|
    xl_cons (xk_iload_n hc xd_153_45 rfl) <|
    xl_cons (xk_ireturn hc xd_153_46) (xl_nil)
theorem xo_153 : ∀ e ∈ xm_i153, xr_sd xm_P 153 e := xo_153_0
set_option maxRecDepth 100000 in
theorem xo_154_0 : ∀ e ∈ ([(0, 1, .aload_n 0, 0, 0, .null, [], none),
  (1, 3, .getfield 33, 6, 6, .null, [], none),
  (4, 1, .aload_n 0, 0, 0, .null, [], none),
  (5, 3, .getfield 29, 6, 5, .null, [], none),
  (8, 3, .if_icmp .ge 7, 15, 0, .null, [], none),
  (11, 1, .iconst 1, 0, 0, .int 1, [], none),
  (12, 3, .goto 4, 16, 0, .null, [], none),
  (15, 1, .iconst 0, 0, 0, .int 0, [], none),
  (16, 1, .ireturn, 0, 0, .null, [], none)] : List xr_E), xr_sd xm_P 154 e := by
  have hc : xp_cd xm_P 154 = prog_9_method_6_code := rfl
  have ho : xp_own xm_P 154 = "ExchangeText$Words" := rfl
  have hm : xp_ml xm_P 154 = 1 := rfl
  exact xl_cons (xk_aload_n hc xd_154_0 rfl) <|
    xl_cons (xk_getfield (C := xm_C6) (T := xm_T6) (N := 7) hc xd_154_1 ho rfl (by decide) xm_u6 xl_517) <|
    xl_cons (xk_aload_n hc xd_154_4 rfl) <|
    xl_cons (xk_getfield (C := xm_C6) (T := xm_T6) (N := 7) hc xd_154_5 ho rfl (by decide) xm_u6 xl_516) <|
    xl_cons (xk_if_icmp hc xd_154_8 (by decide)) <|
    xl_cons (xk_iconst hc xd_154_11 (by decide)) <|
    xl_cons (xk_goto hc xd_154_12 (by decide)) <|
    xl_cons (xk_iconst hc xd_154_15 (by decide)) <|
    xl_cons (xk_ireturn hc xd_154_16) (xl_nil)
theorem xo_154 : ∀ e ∈ xm_i154, xr_sd xm_P 154 e := xo_154_0
set_option maxRecDepth 100000 in
theorem xo_155_0 : ∀ e ∈ ([(0, 1, .aload_n 0, 0, 0, .null, [], none),
  (1, 3, .getfield 33, 6, 6, .null, [], none),
  (4, 1, .aload_n 0, 0, 0, .null, [], none),
  (5, 3, .getfield 29, 6, 5, .null, [], none),
  (8, 3, .if_icmp .ge 15, 23, 0, .null, [], none),
  (11, 1, .aload_n 0, 0, 0, .null, [], none),
  (12, 3, .getfield 9, 6, 1, .null, [], none),
  (15, 1, .aload_n 0, 0, 0, .null, [], none),
  (16, 3, .getfield 33, 6, 6, .null, [], none),
  (19, 1, .iaload, 0, 0, .null, [], none),
  (20, 3, .goto 10, 30, 0, .null, [], none),
  (23, 1, .aload_n 0, 0, 0, .null, [], none),
  (24, 3, .getfield 25, 6, 0, .null, [], none),
  (27, 3, .getfield 36, 1, 1, .null, [], none),
  (30, 1, .ireturn, 0, 0, .null, [], none)] : List xr_E), xr_sd xm_P 155 e := by
  have hc : xp_cd xm_P 155 = prog_9_method_7_code := rfl
  have ho : xp_own xm_P 155 = "ExchangeText$Words" := rfl
  have hm : xp_ml xm_P 155 = 1 := rfl
  exact xl_cons (xk_aload_n hc xd_155_0 rfl) <|
    xl_cons (xk_getfield (C := xm_C6) (T := xm_T6) (N := 7) hc xd_155_1 ho rfl (by decide) xm_u6 xl_517) <|
    xl_cons (xk_aload_n hc xd_155_4 rfl) <|
    xl_cons (xk_getfield (C := xm_C6) (T := xm_T6) (N := 7) hc xd_155_5 ho rfl (by decide) xm_u6 xl_516) <|
    xl_cons (xk_if_icmp hc xd_155_8 (by decide)) <|
    xl_cons (xk_aload_n hc xd_155_11 rfl) <|
    xl_cons (xk_getfield (C := xm_C6) (T := xm_T6) (N := 7) hc xd_155_12 ho rfl (by decide) xm_u6 xl_511) <|
    xl_cons (xk_aload_n hc xd_155_15 rfl) <|
    xl_cons (xk_getfield (C := xm_C6) (T := xm_T6) (N := 7) hc xd_155_16 ho rfl (by decide) xm_u6 xl_517) <|
    xl_cons (xk_iaload hc xd_155_19) <|
    xl_cons (xk_goto hc xd_155_20 (by decide)) <|
    xl_cons (xk_aload_n hc xd_155_23 rfl) <|
    xl_cons (xk_getfield (C := xm_C6) (T := xm_T6) (N := 7) hc xd_155_24 ho rfl (by decide) xm_u6 xl_515) <|
    xl_cons (xk_getfield (C := xm_C1) (T := xm_T1) (N := 3) hc xd_155_27 ho rfl (by decide) xm_u1 xl_518) <|
    xl_cons (xk_ireturn hc xd_155_30) (xl_nil)
theorem xo_155 : ∀ e ∈ xm_i155, xr_sd xm_P 155 e := xo_155_0
set_option maxRecDepth 100000 in
theorem xo_156_0 : ∀ e ∈ ([(0, 1, .aload_n 0, 0, 0, .null, [], none),
  (1, 3, .getfield 33, 6, 6, .null, [], none),
  (4, 1, .aload_n 0, 0, 0, .null, [], none),
  (5, 3, .getfield 29, 6, 5, .null, [], none),
  (8, 3, .if_icmp .ge 15, 23, 0, .null, [], none),
  (11, 1, .aload_n 0, 0, 0, .null, [], none),
  (12, 3, .getfield 18, 6, 3, .null, [], none),
  (15, 1, .aload_n 0, 0, 0, .null, [], none),
  (16, 3, .getfield 33, 6, 6, .null, [], none),
  (19, 1, .caload, 0, 0, .null, [], none),
  (20, 3, .goto 4, 24, 0, .null, [], none),
  (23, 1, .iconst 0, 0, 0, .int 0, [], none),
  (24, 1, .ireturn, 0, 0, .null, [], none)] : List xr_E), xr_sd xm_P 156 e := by
  have hc : xp_cd xm_P 156 = prog_9_method_8_code := rfl
  have ho : xp_own xm_P 156 = "ExchangeText$Words" := rfl
  have hm : xp_ml xm_P 156 = 1 := rfl
  exact xl_cons (xk_aload_n hc xd_156_0 rfl) <|
    xl_cons (xk_getfield (C := xm_C6) (T := xm_T6) (N := 7) hc xd_156_1 ho rfl (by decide) xm_u6 xl_517) <|
    xl_cons (xk_aload_n hc xd_156_4 rfl) <|
    xl_cons (xk_getfield (C := xm_C6) (T := xm_T6) (N := 7) hc xd_156_5 ho rfl (by decide) xm_u6 xl_516) <|
    xl_cons (xk_if_icmp hc xd_156_8 (by decide)) <|
    xl_cons (xk_aload_n hc xd_156_11 rfl) <|
    xl_cons (xk_getfield (C := xm_C6) (T := xm_T6) (N := 7) hc xd_156_12 ho rfl (by decide) xm_u6 xl_513) <|
    xl_cons (xk_aload_n hc xd_156_15 rfl) <|
    xl_cons (xk_getfield (C := xm_C6) (T := xm_T6) (N := 7) hc xd_156_16 ho rfl (by decide) xm_u6 xl_517) <|
    xl_cons (xk_caload hc xd_156_19) <|
    xl_cons (xk_goto hc xd_156_20 (by decide)) <|
    xl_cons (xk_iconst hc xd_156_23 (by decide)) <|
    xl_cons (xk_ireturn hc xd_156_24) (xl_nil)
theorem xo_156 : ∀ e ∈ xm_i156, xr_sd xm_P 156 e := xo_156_0
set_option maxRecDepth 100000 in
theorem xo_157_0 : ∀ e ∈ ([(0, 1, .aload_n 0, 0, 0, .null, [], none),
  (1, 1, .dup, 0, 0, .null, [], none),
  (2, 3, .getfield 33, 6, 6, .null, [], none),
  (5, 1, .iconst 1, 0, 0, .int 1, [], none),
  (6, 1, .iadd, 0, 0, .null, [], none),
  (7, 3, .putfield 33, 6, 6, .null, [], none),
  (10, 1, .return_, 0, 0, .null, [], none)] : List xr_E), xr_sd xm_P 157 e := by
  have hc : xp_cd xm_P 157 = prog_9_method_9_code := rfl
  have ho : xp_own xm_P 157 = "ExchangeText$Words" := rfl
  have hm : xp_ml xm_P 157 = 1 := rfl
  exact xl_cons (xk_aload_n hc xd_157_0 rfl) <|
    xl_cons (xk_dup hc xd_157_1) <|
    xl_cons (xk_getfield (C := xm_C6) (T := xm_T6) (N := 7) hc xd_157_2 ho rfl (by decide) xm_u6 xl_517) <|
    xl_cons (xk_iconst hc xd_157_5 (by decide)) <|
    xl_cons (xk_iadd hc xd_157_6) <|
    xl_cons (xk_putfield (C := xm_C6) (T := xm_T6) (N := 7) (ty := xm_ty6) hc xd_157_7 ho rfl (by decide) xm_u6 xm_tk6 rfl xm_nm6 xl_517 rfl) <|
    xl_cons (xk_return_ hc xd_157_10) (xl_nil)
theorem xo_157 : ∀ e ∈ xm_i157, xr_sd xm_P 157 e := xo_157_0
set_option maxRecDepth 100000 in
theorem xo_158_0 : ∀ e ∈ ([(0, 1, .aload_n 0, 0, 0, .null, [], none),
  (1, 3, .getfield 33, 6, 6, .null, [], none),
  (4, 1, .aload_n 0, 0, 0, .null, [], none),
  (5, 3, .getfield 29, 6, 5, .null, [], none),
  (8, 3, .if_icmp .ge 20, 28, 0, .null, [], none),
  (11, 1, .aload_n 0, 0, 0, .null, [], none),
  (12, 3, .getfield 18, 6, 3, .null, [], none),
  (15, 1, .aload_n 0, 0, 0, .null, [], none),
  (16, 3, .getfield 33, 6, 6, .null, [], none),
  (19, 1, .caload, 0, 0, .null, [], none),
  (20, 1, .iload_n 1, 1, 0, .null, [], none),
  (21, 3, .if_icmp .ne 7, 28, 0, .null, [], none),
  (24, 1, .iconst 1, 0, 0, .int 1, [], none),
  (25, 3, .goto 4, 29, 0, .null, [], none),
  (28, 1, .iconst 0, 0, 0, .int 0, [], none),
  (29, 1, .istore_n 2, 2, 0, .null, [], none),
  (30, 1, .iload_n 2, 2, 0, .null, [], none),
  (31, 3, .ifCond .eq 13, 44, 0, .null, [], none),
  (34, 1, .aload_n 0, 0, 0, .null, [], none),
  (35, 1, .dup, 0, 0, .null, [], none),
  (36, 3, .getfield 33, 6, 6, .null, [], none),
  (39, 1, .iconst 1, 0, 0, .int 1, [], none),
  (40, 1, .iadd, 0, 0, .null, [], none),
  (41, 3, .putfield 33, 6, 6, .null, [], none),
  (44, 1, .iload_n 2, 2, 0, .null, [], none),
  (45, 1, .ireturn, 0, 0, .null, [], none)] : List xr_E), xr_sd xm_P 158 e := by
  have hc : xp_cd xm_P 158 = prog_9_method_10_code := rfl
  have ho : xp_own xm_P 158 = "ExchangeText$Words" := rfl
  have hm : xp_ml xm_P 158 = 3 := rfl
  exact xl_cons (xk_aload_n hc xd_158_0 rfl) <|
    xl_cons (xk_getfield (C := xm_C6) (T := xm_T6) (N := 7) hc xd_158_1 ho rfl (by decide) xm_u6 xl_517) <|
    xl_cons (xk_aload_n hc xd_158_4 rfl) <|
    xl_cons (xk_getfield (C := xm_C6) (T := xm_T6) (N := 7) hc xd_158_5 ho rfl (by decide) xm_u6 xl_516) <|
    xl_cons (xk_if_icmp hc xd_158_8 (by decide)) <|
    xl_cons (xk_aload_n hc xd_158_11 rfl) <|
    xl_cons (xk_getfield (C := xm_C6) (T := xm_T6) (N := 7) hc xd_158_12 ho rfl (by decide) xm_u6 xl_513) <|
    xl_cons (xk_aload_n hc xd_158_15 rfl) <|
    xl_cons (xk_getfield (C := xm_C6) (T := xm_T6) (N := 7) hc xd_158_16 ho rfl (by decide) xm_u6 xl_517) <|
    xl_cons (xk_caload hc xd_158_19) <|
    xl_cons (xk_iload_n hc xd_158_20 rfl) <|
    xl_cons (xk_if_icmp hc xd_158_21 (by decide)) <|
    xl_cons (xk_iconst hc xd_158_24 (by decide)) <|
    xl_cons (xk_goto hc xd_158_25 (by decide)) <|
    xl_cons (xk_iconst hc xd_158_28 (by decide)) <|
    xl_cons (xk_istore_n hc xd_158_29 hm rfl (by decide)) <|
    xl_cons (xk_iload_n hc xd_158_30 rfl) <|
    xl_cons (xk_ifCond hc xd_158_31 (by decide)) <|
    xl_cons (xk_aload_n hc xd_158_34 rfl) <|
    xl_cons (xk_dup hc xd_158_35) <|
    xl_cons (xk_getfield (C := xm_C6) (T := xm_T6) (N := 7) hc xd_158_36 ho rfl (by decide) xm_u6 xl_517) <|
    xl_cons (xk_iconst hc xd_158_39 (by decide)) <|
    xl_cons (xk_iadd hc xd_158_40) <|
    xl_cons (xk_putfield (C := xm_C6) (T := xm_T6) (N := 7) (ty := xm_ty6) hc xd_158_41 ho rfl (by decide) xm_u6 xm_tk6 rfl xm_nm6 xl_517 rfl) <|
    xl_cons (xk_iload_n hc xd_158_44 rfl) <|
    xl_cons (xk_ireturn hc xd_158_45) (xl_nil)
theorem xo_158 : ∀ e ∈ xm_i158, xr_sd xm_P 158 e := xo_158_0
set_option maxRecDepth 100000 in
theorem xo_159_0 : ∀ e ∈ ([(0, 1, .aload_n 0, 0, 0, .null, [], none),
  (1, 3, .invokevirtual 64, 156, 1, .retAddr 0, [], none),
  (4, 3, .invokestatic 45, 29, 1, .retAddr 3, [], none),
  (7, 3, .ifCond .eq 27, 34, 0, .null, [], none),
  (10, 1, .aload_n 0, 0, 0, .null, [], none),
  (11, 3, .getfield 15, 6, 2, .null, [], none),
  (14, 1, .aload_n 0, 0, 0, .null, [], none),
  (15, 3, .getfield 33, 6, 6, .null, [], none),
  (18, 1, .iaload, 0, 0, .null, [], none),
  (19, 1, .aload_n 0, 0, 0, .null, [], none),
  (20, 3, .getfield 9, 6, 1, .null, [], none),
  (23, 1, .aload_n 0, 0, 0, .null, [], none),
  (24, 3, .getfield 33, 6, 6, .null, [], none),
  (27, 1, .iaload, 0, 0, .null, [], none),
  (28, 1, .isub, 0, 0, .null, [], none),
  (29, 2, .bipush 8, 0, 0, .int 8, [], none),
  (31, 3, .if_icmp .le 5, 36, 0, .null, [], none),
  (34, 1, .lconst 0, 0, 0, .long 0, [], none),
  (35, 1, .lreturn, 0, 0, .null, [], none),
  (36, 1, .lconst 0, 0, 0, .long 0, [], none),
  (37, 1, .lstore_n 1, 1, 0, .null, [], none),
  (38, 1, .aload_n 0, 0, 0, .null, [], none),
  (39, 3, .getfield 9, 6, 1, .null, [], none),
  (42, 1, .aload_n 0, 0, 0, .null, [], none),
  (43, 3, .getfield 33, 6, 6, .null, [], none),
  (46, 1, .iaload, 0, 0, .null, [], none),
  (47, 1, .istore_n 3, 3, 0, .null, [], none),
  (48, 1, .iload_n 3, 3, 0, .null, [], none),
  (49, 1, .aload_n 0, 0, 0, .null, [], none),
  (50, 3, .getfield 15, 6, 2, .null, [], none),
  (53, 1, .aload_n 0, 0, 0, .null, [], none),
  (54, 3, .getfield 33, 6, 6, .null, [], none),
  (57, 1, .iaload, 0, 0, .null, [], none),
  (58, 3, .if_icmp .ge 24, 82, 0, .null, [], none),
  (61, 1, .lload_n 1, 1, 0, .null, [], none),
  (62, 2, .bipush 8, 0, 0, .int 8, [], none),
  (64, 1, .lshl, 0, 0, .null, [], none),
  (65, 1, .aload_n 0, 0, 0, .null, [], none),
  (66, 3, .getfield 25, 6, 0, .null, [], none),
  (69, 1, .iload_n 3, 3, 0, .null, [], none)] : List xr_E), xr_sd xm_P 159 e := by
  have hc : xp_cd xm_P 159 = prog_9_method_11_code := rfl
  have ho : xp_own xm_P 159 = "ExchangeText$Words" := rfl
  have hm : xp_ml xm_P 159 = 4 := rfl
  exact xl_cons (xk_aload_n hc xd_159_0 rfl) <|
    xl_cons (xk_callV (Y := xm_y156) ho rfl (by decide) ⟨by decide, by decide⟩ xl_36 hc xd_159_1 rfl (b' := 0) rfl xm_nd156 (T := xm_T6) (N := 7) rfl xl_531 xl_447 xl_448) <|
    xl_cons (xk_callSN (Y := xm_y29) ho rfl (by decide) ⟨by decide, by decide⟩ xl_52 hc xd_159_4 rfl xm_nd29 xz_13 xl_520) <|
    xl_cons (xk_ifCond hc xd_159_7 (by decide)) <|
    xl_cons (xk_aload_n hc xd_159_10 rfl) <|
    xl_cons (xk_getfield (C := xm_C6) (T := xm_T6) (N := 7) hc xd_159_11 ho rfl (by decide) xm_u6 xl_512) <|
    xl_cons (xk_aload_n hc xd_159_14 rfl) <|
    xl_cons (xk_getfield (C := xm_C6) (T := xm_T6) (N := 7) hc xd_159_15 ho rfl (by decide) xm_u6 xl_517) <|
    xl_cons (xk_iaload hc xd_159_18) <|
    xl_cons (xk_aload_n hc xd_159_19 rfl) <|
    xl_cons (xk_getfield (C := xm_C6) (T := xm_T6) (N := 7) hc xd_159_20 ho rfl (by decide) xm_u6 xl_511) <|
    xl_cons (xk_aload_n hc xd_159_23 rfl) <|
    xl_cons (xk_getfield (C := xm_C6) (T := xm_T6) (N := 7) hc xd_159_24 ho rfl (by decide) xm_u6 xl_517) <|
    xl_cons (xk_iaload hc xd_159_27) <|
    xl_cons (xk_isub hc xd_159_28) <|
    xl_cons (xk_bipush hc xd_159_29 (by decide)) <|
    xl_cons (xk_if_icmp hc xd_159_31 (by decide)) <|
    xl_cons (xk_lconst hc xd_159_34 rfl) <|
    xl_cons (xk_lreturn hc xd_159_35) <|
    xl_cons (xk_lconst hc xd_159_36 rfl) <|
    xl_cons (xk_lstore_n hc xd_159_37 hm rfl (by decide)) <|
    xl_cons (xk_aload_n hc xd_159_38 rfl) <|
    xl_cons (xk_getfield (C := xm_C6) (T := xm_T6) (N := 7) hc xd_159_39 ho rfl (by decide) xm_u6 xl_511) <|
    xl_cons (xk_aload_n hc xd_159_42 rfl) <|
    xl_cons (xk_getfield (C := xm_C6) (T := xm_T6) (N := 7) hc xd_159_43 ho rfl (by decide) xm_u6 xl_517) <|
    xl_cons (xk_iaload hc xd_159_46) <|
    xl_cons (xk_istore_n hc xd_159_47 hm rfl (by decide)) <|
    xl_cons (xk_iload_n hc xd_159_48 rfl) <|
    xl_cons (xk_aload_n hc xd_159_49 rfl) <|
    xl_cons (xk_getfield (C := xm_C6) (T := xm_T6) (N := 7) hc xd_159_50 ho rfl (by decide) xm_u6 xl_512) <|
    xl_cons (xk_aload_n hc xd_159_53 rfl) <|
    xl_cons (xk_getfield (C := xm_C6) (T := xm_T6) (N := 7) hc xd_159_54 ho rfl (by decide) xm_u6 xl_517) <|
    xl_cons (xk_iaload hc xd_159_57) <|
    xl_cons (xk_if_icmp hc xd_159_58 (by decide)) <|
    xl_cons (xk_lload_n hc xd_159_61 rfl) <|
    xl_cons (xk_bipush hc xd_159_62 (by decide)) <|
    xl_cons (xk_lshl hc xd_159_64) <|
    xl_cons (xk_aload_n hc xd_159_65 rfl) <|
    xl_cons (xk_getfield (C := xm_C6) (T := xm_T6) (N := 7) hc xd_159_66 ho rfl (by decide) xm_u6 xl_515) <|
    xl_cons (xk_iload_n hc xd_159_69 rfl) (xl_nil)
set_option maxRecDepth 100000 in
theorem xo_159_1 : ∀ e ∈ ([(70, 3, .invokevirtual 41, 144, 2, .retAddr 0, [], none),
  (73, 1, .i2l, 0, 0, .null, [], none),
  (74, 1, .lor, 0, 0, .null, [], none),
  (75, 1, .lstore_n 1, 1, 0, .null, [], none),
  (76, 3, .iinc 3 1, 3, 0, .int 1, [], none),
  (79, 3, .goto (-31), 48, 0, .null, [], none),
  (82, 1, .lload_n 1, 1, 0, .null, [], none),
  (83, 1, .lreturn, 0, 0, .null, [], none)] : List xr_E), xr_sd xm_P 159 e := by
  have hc : xp_cd xm_P 159 = prog_9_method_11_code := rfl
  have ho : xp_own xm_P 159 = "ExchangeText$Words" := rfl
  have hm : xp_ml xm_P 159 = 4 := rfl
  exact xl_cons (xk_callV (Y := xm_y144) ho rfl (by decide) ⟨by decide, by decide⟩ xl_5 hc xd_159_70 rfl (b' := 1) rfl xm_nd144 (T := xm_T1) (N := 3) rfl xl_519 xl_63 xl_64) <|
    xl_cons (xk_i2l hc xd_159_73) <|
    xl_cons (xk_lor hc xd_159_74) <|
    xl_cons (xk_lstore_n hc xd_159_75 hm rfl (by decide)) <|
    xl_cons (xk_iinc hc xd_159_76 hm rfl (by decide) (by decide)) <|
    xl_cons (xk_goto hc xd_159_79 (by decide)) <|
    xl_cons (xk_lload_n hc xd_159_82 rfl) <|
    xl_cons (xk_lreturn hc xd_159_83) (xl_nil)
theorem xo_159 : ∀ e ∈ xm_i159, xr_sd xm_P 159 e := xl_app xo_159_0 (xo_159_1)
set_option maxRecDepth 100000 in
theorem xo_160_0 : ∀ e ∈ ([(0, 1, .aload_n 0, 0, 0, .null, [], none),
  (1, 3, .invokevirtual 64, 156, 1, .retAddr 0, [], none),
  (4, 2, .bipush 45, 0, 0, .int 45, [], none),
  (6, 3, .if_icmp .ne 7, 13, 0, .null, [], none),
  (9, 1, .iconst 1, 0, 0, .int 1, [], none),
  (10, 3, .goto 4, 14, 0, .null, [], none),
  (13, 1, .iconst 0, 0, 0, .int 0, [], none),
  (14, 1, .istore_n 1, 1, 0, .null, [], none),
  (15, 1, .iload_n 1, 1, 0, .null, [], none),
  (16, 3, .ifCond .eq 12, 28, 0, .null, [], none),
  (19, 1, .aload_n 0, 0, 0, .null, [], none),
  (20, 3, .getfield 33, 6, 6, .null, [], none),
  (23, 1, .iconst 1, 0, 0, .int 1, [], none),
  (24, 1, .iadd, 0, 0, .null, [], none),
  (25, 3, .goto 7, 32, 0, .null, [], none),
  (28, 1, .aload_n 0, 0, 0, .null, [], none),
  (29, 3, .getfield 33, 6, 6, .null, [], none),
  (32, 1, .istore_n 2, 2, 0, .null, [], none),
  (33, 1, .iload_n 2, 2, 0, .null, [], none),
  (34, 1, .aload_n 0, 0, 0, .null, [], none),
  (35, 3, .getfield 29, 6, 5, .null, [], none),
  (38, 3, .if_icmp .ge 41, 79, 0, .null, [], none),
  (41, 1, .aload_n 0, 0, 0, .null, [], none),
  (42, 3, .getfield 22, 6, 4, .null, [], none),
  (45, 1, .iload_n 2, 2, 0, .null, [], none),
  (46, 1, .iaload, 0, 0, .null, [], none),
  (47, 1, .iconst (-1), 0, 0, .int (-1), [], none),
  (48, 3, .if_icmp .eq 31, 79, 0, .null, [], none),
  (51, 1, .aload_n 0, 0, 0, .null, [], none),
  (52, 1, .iload_n 2, 2, 0, .null, [], none),
  (53, 1, .iconst 1, 0, 0, .int 1, [], none),
  (54, 1, .iadd, 0, 0, .null, [], none),
  (55, 3, .putfield 33, 6, 6, .null, [], none),
  (58, 1, .iload_n 1, 1, 0, .null, [], none),
  (59, 3, .ifCond .eq 13, 72, 0, .null, [], none),
  (62, 1, .aload_n 0, 0, 0, .null, [], none),
  (63, 3, .getfield 22, 6, 4, .null, [], none),
  (66, 1, .iload_n 2, 2, 0, .null, [], none),
  (67, 1, .iaload, 0, 0, .null, [], none),
  (68, 1, .ineg, 0, 0, .null, [], none)] : List xr_E), xr_sd xm_P 160 e := by
  have hc : xp_cd xm_P 160 = prog_9_method_12_code := rfl
  have ho : xp_own xm_P 160 = "ExchangeText$Words" := rfl
  have hm : xp_ml xm_P 160 = 3 := rfl
  exact xl_cons (xk_aload_n hc xd_160_0 rfl) <|
    xl_cons (xk_callV (Y := xm_y156) ho rfl (by decide) ⟨by decide, by decide⟩ xl_36 hc xd_160_1 rfl (b' := 0) rfl xm_nd156 (T := xm_T6) (N := 7) rfl xl_531 xl_447 xl_448) <|
    xl_cons (xk_bipush hc xd_160_4 (by decide)) <|
    xl_cons (xk_if_icmp hc xd_160_6 (by decide)) <|
    xl_cons (xk_iconst hc xd_160_9 (by decide)) <|
    xl_cons (xk_goto hc xd_160_10 (by decide)) <|
    xl_cons (xk_iconst hc xd_160_13 (by decide)) <|
    xl_cons (xk_istore_n hc xd_160_14 hm rfl (by decide)) <|
    xl_cons (xk_iload_n hc xd_160_15 rfl) <|
    xl_cons (xk_ifCond hc xd_160_16 (by decide)) <|
    xl_cons (xk_aload_n hc xd_160_19 rfl) <|
    xl_cons (xk_getfield (C := xm_C6) (T := xm_T6) (N := 7) hc xd_160_20 ho rfl (by decide) xm_u6 xl_517) <|
    xl_cons (xk_iconst hc xd_160_23 (by decide)) <|
    xl_cons (xk_iadd hc xd_160_24) <|
    xl_cons (xk_goto hc xd_160_25 (by decide)) <|
    xl_cons (xk_aload_n hc xd_160_28 rfl) <|
    xl_cons (xk_getfield (C := xm_C6) (T := xm_T6) (N := 7) hc xd_160_29 ho rfl (by decide) xm_u6 xl_517) <|
    xl_cons (xk_istore_n hc xd_160_32 hm rfl (by decide)) <|
    xl_cons (xk_iload_n hc xd_160_33 rfl) <|
    xl_cons (xk_aload_n hc xd_160_34 rfl) <|
    xl_cons (xk_getfield (C := xm_C6) (T := xm_T6) (N := 7) hc xd_160_35 ho rfl (by decide) xm_u6 xl_516) <|
    xl_cons (xk_if_icmp hc xd_160_38 (by decide)) <|
    xl_cons (xk_aload_n hc xd_160_41 rfl) <|
    xl_cons (xk_getfield (C := xm_C6) (T := xm_T6) (N := 7) hc xd_160_42 ho rfl (by decide) xm_u6 xl_514) <|
    xl_cons (xk_iload_n hc xd_160_45 rfl) <|
    xl_cons (xk_iaload hc xd_160_46) <|
    xl_cons (xk_iconst hc xd_160_47 (by decide)) <|
    xl_cons (xk_if_icmp hc xd_160_48 (by decide)) <|
    xl_cons (xk_aload_n hc xd_160_51 rfl) <|
    xl_cons (xk_iload_n hc xd_160_52 rfl) <|
    xl_cons (xk_iconst hc xd_160_53 (by decide)) <|
    xl_cons (xk_iadd hc xd_160_54) <|
    xl_cons (xk_putfield (C := xm_C6) (T := xm_T6) (N := 7) (ty := xm_ty6) hc xd_160_55 ho rfl (by decide) xm_u6 xm_tk6 rfl xm_nm6 xl_517 rfl) <|
    xl_cons (xk_iload_n hc xd_160_58 rfl) <|
    xl_cons (xk_ifCond hc xd_160_59 (by decide)) <|
    xl_cons (xk_aload_n hc xd_160_62 rfl) <|
    xl_cons (xk_getfield (C := xm_C6) (T := xm_T6) (N := 7) hc xd_160_63 ho rfl (by decide) xm_u6 xl_514) <|
    xl_cons (xk_iload_n hc xd_160_66 rfl) <|
    xl_cons (xk_iaload hc xd_160_67) <|
    xl_cons (xk_ineg hc xd_160_68) (xl_nil)
set_option maxRecDepth 100000 in
theorem xo_160_1 : ∀ e ∈ ([(69, 3, .goto 9, 78, 0, .null, [], none),
  (72, 1, .aload_n 0, 0, 0, .null, [], none),
  (73, 3, .getfield 22, 6, 4, .null, [], none),
  (76, 1, .iload_n 2, 2, 0, .null, [], none),
  (77, 1, .iaload, 0, 0, .null, [], none),
  (78, 1, .ireturn, 0, 0, .null, [], none),
  (79, 1, .iload_n 2, 2, 0, .null, [], none),
  (80, 1, .aload_n 0, 0, 0, .null, [], none),
  (81, 3, .getfield 29, 6, 5, .null, [], none),
  (84, 3, .if_icmp .ge 15, 99, 0, .null, [], none),
  (87, 1, .aload_n 0, 0, 0, .null, [], none),
  (88, 3, .getfield 18, 6, 3, .null, [], none),
  (91, 1, .iload_n 2, 2, 0, .null, [], none),
  (92, 1, .caload, 0, 0, .null, [], none),
  (93, 3, .invokestatic 53, 28, 1, .retAddr 3, [], none),
  (96, 3, .ifCond .ne 8, 104, 0, .null, [], none),
  (99, 1, .aload_n 0, 0, 0, .null, [], none),
  (100, 1, .iload_n 2, 2, 0, .null, [], none),
  (101, 3, .putfield 33, 6, 6, .null, [], none),
  (104, 2, .ldc 68, 0, 0, .int (-2000000000), [], none),
  (106, 1, .ireturn, 0, 0, .null, [], none)] : List xr_E), xr_sd xm_P 160 e := by
  have hc : xp_cd xm_P 160 = prog_9_method_12_code := rfl
  have ho : xp_own xm_P 160 = "ExchangeText$Words" := rfl
  have hm : xp_ml xm_P 160 = 3 := rfl
  exact xl_cons (xk_goto hc xd_160_69 (by decide)) <|
    xl_cons (xk_aload_n hc xd_160_72 rfl) <|
    xl_cons (xk_getfield (C := xm_C6) (T := xm_T6) (N := 7) hc xd_160_73 ho rfl (by decide) xm_u6 xl_514) <|
    xl_cons (xk_iload_n hc xd_160_76 rfl) <|
    xl_cons (xk_iaload hc xd_160_77) <|
    xl_cons (xk_ireturn hc xd_160_78) <|
    xl_cons (xk_iload_n hc xd_160_79 rfl) <|
    xl_cons (xk_aload_n hc xd_160_80 rfl) <|
    xl_cons (xk_getfield (C := xm_C6) (T := xm_T6) (N := 7) hc xd_160_81 ho rfl (by decide) xm_u6 xl_516) <|
    xl_cons (xk_if_icmp hc xd_160_84 (by decide)) <|
    xl_cons (xk_aload_n hc xd_160_87 rfl) <|
    xl_cons (xk_getfield (C := xm_C6) (T := xm_T6) (N := 7) hc xd_160_88 ho rfl (by decide) xm_u6 xl_513) <|
    xl_cons (xk_iload_n hc xd_160_91 rfl) <|
    xl_cons (xk_caload hc xd_160_92) <|
    xl_cons (xk_callSN (Y := xm_y28) ho rfl (by decide) ⟨by decide, by decide⟩ xl_52 hc xd_160_93 rfl xm_nd28 xz_14 xl_524) <|
    xl_cons (xk_ifCond hc xd_160_96 (by decide)) <|
    xl_cons (xk_aload_n hc xd_160_99 rfl) <|
    xl_cons (xk_iload_n hc xd_160_100 rfl) <|
    xl_cons (xk_putfield (C := xm_C6) (T := xm_T6) (N := 7) (ty := xm_ty6) hc xd_160_101 ho rfl (by decide) xm_u6 xm_tk6 rfl xm_nm6 xl_517 rfl) <|
    xl_cons (xk_ldc hc xd_160_104 ho rfl xl_532) <|
    xl_cons (xk_ireturn hc xd_160_106) (xl_nil)
theorem xo_160 : ∀ e ∈ xm_i160, xr_sd xm_P 160 e := xl_app xo_160_0 (xo_160_1)
set_option maxRecDepth 100000 in
theorem xo_161_0 : ∀ e ∈ ([(0, 1, .aload_n 0, 0, 0, .null, [], none),
  (1, 3, .getfield 33, 6, 6, .null, [], none),
  (4, 1, .aload_n 0, 0, 0, .null, [], none),
  (5, 3, .getfield 29, 6, 5, .null, [], none),
  (8, 3, .if_icmp .ge 39, 47, 0, .null, [], none),
  (11, 1, .aload_n 0, 0, 0, .null, [], none),
  (12, 3, .getfield 15, 6, 2, .null, [], none),
  (15, 1, .aload_n 0, 0, 0, .null, [], none),
  (16, 3, .getfield 33, 6, 6, .null, [], none),
  (19, 1, .iaload, 0, 0, .null, [], none),
  (20, 1, .aload_n 0, 0, 0, .null, [], none),
  (21, 3, .getfield 9, 6, 1, .null, [], none),
  (24, 1, .aload_n 0, 0, 0, .null, [], none),
  (25, 3, .getfield 33, 6, 6, .null, [], none),
  (28, 1, .iaload, 0, 0, .null, [], none),
  (29, 1, .isub, 0, 0, .null, [], none),
  (30, 1, .iconst 3, 0, 0, .int 3, [], none),
  (31, 3, .if_icmp .gt 16, 47, 0, .null, [], none),
  (34, 1, .aload_n 0, 0, 0, .null, [], none),
  (35, 3, .getfield 22, 6, 4, .null, [], none),
  (38, 1, .aload_n 0, 0, 0, .null, [], none),
  (39, 3, .getfield 33, 6, 6, .null, [], none),
  (42, 1, .iaload, 0, 0, .null, [], none),
  (43, 1, .iconst 1, 0, 0, .int 1, [], none),
  (44, 3, .if_icmp .ge 5, 49, 0, .null, [], none),
  (47, 1, .iconst (-1), 0, 0, .int (-1), [], none),
  (48, 1, .ireturn, 0, 0, .null, [], none),
  (49, 1, .aload_n 0, 0, 0, .null, [], none),
  (50, 3, .getfield 22, 6, 4, .null, [], none),
  (53, 1, .aload_n 0, 0, 0, .null, [], none),
  (54, 3, .getfield 33, 6, 6, .null, [], none),
  (57, 1, .iaload, 0, 0, .null, [], none),
  (58, 1, .ireturn, 0, 0, .null, [], none)] : List xr_E), xr_sd xm_P 161 e := by
  have hc : xp_cd xm_P 161 = prog_9_method_13_code := rfl
  have ho : xp_own xm_P 161 = "ExchangeText$Words" := rfl
  have hm : xp_ml xm_P 161 = 1 := rfl
  exact xl_cons (xk_aload_n hc xd_161_0 rfl) <|
    xl_cons (xk_getfield (C := xm_C6) (T := xm_T6) (N := 7) hc xd_161_1 ho rfl (by decide) xm_u6 xl_517) <|
    xl_cons (xk_aload_n hc xd_161_4 rfl) <|
    xl_cons (xk_getfield (C := xm_C6) (T := xm_T6) (N := 7) hc xd_161_5 ho rfl (by decide) xm_u6 xl_516) <|
    xl_cons (xk_if_icmp hc xd_161_8 (by decide)) <|
    xl_cons (xk_aload_n hc xd_161_11 rfl) <|
    xl_cons (xk_getfield (C := xm_C6) (T := xm_T6) (N := 7) hc xd_161_12 ho rfl (by decide) xm_u6 xl_512) <|
    xl_cons (xk_aload_n hc xd_161_15 rfl) <|
    xl_cons (xk_getfield (C := xm_C6) (T := xm_T6) (N := 7) hc xd_161_16 ho rfl (by decide) xm_u6 xl_517) <|
    xl_cons (xk_iaload hc xd_161_19) <|
    xl_cons (xk_aload_n hc xd_161_20 rfl) <|
    xl_cons (xk_getfield (C := xm_C6) (T := xm_T6) (N := 7) hc xd_161_21 ho rfl (by decide) xm_u6 xl_511) <|
    xl_cons (xk_aload_n hc xd_161_24 rfl) <|
    xl_cons (xk_getfield (C := xm_C6) (T := xm_T6) (N := 7) hc xd_161_25 ho rfl (by decide) xm_u6 xl_517) <|
    xl_cons (xk_iaload hc xd_161_28) <|
    xl_cons (xk_isub hc xd_161_29) <|
    xl_cons (xk_iconst hc xd_161_30 (by decide)) <|
    xl_cons (xk_if_icmp hc xd_161_31 (by decide)) <|
    xl_cons (xk_aload_n hc xd_161_34 rfl) <|
    xl_cons (xk_getfield (C := xm_C6) (T := xm_T6) (N := 7) hc xd_161_35 ho rfl (by decide) xm_u6 xl_514) <|
    xl_cons (xk_aload_n hc xd_161_38 rfl) <|
    xl_cons (xk_getfield (C := xm_C6) (T := xm_T6) (N := 7) hc xd_161_39 ho rfl (by decide) xm_u6 xl_517) <|
    xl_cons (xk_iaload hc xd_161_42) <|
    xl_cons (xk_iconst hc xd_161_43 (by decide)) <|
    xl_cons (xk_if_icmp hc xd_161_44 (by decide)) <|
    xl_cons (xk_iconst hc xd_161_47 (by decide)) <|
    xl_cons (xk_ireturn hc xd_161_48) <|
    xl_cons (xk_aload_n hc xd_161_49 rfl) <|
    xl_cons (xk_getfield (C := xm_C6) (T := xm_T6) (N := 7) hc xd_161_50 ho rfl (by decide) xm_u6 xl_514) <|
    xl_cons (xk_aload_n hc xd_161_53 rfl) <|
    xl_cons (xk_getfield (C := xm_C6) (T := xm_T6) (N := 7) hc xd_161_54 ho rfl (by decide) xm_u6 xl_517) <|
    xl_cons (xk_iaload hc xd_161_57) <|
    xl_cons (xk_ireturn hc xd_161_58) (xl_nil)
theorem xo_161 : ∀ e ∈ xm_i161, xr_sd xm_P 161 e := xo_161_0
set_option maxRecDepth 100000 in
theorem xo_162_0 : ∀ e ∈ ([(0, 1, .aload_n 0, 0, 0, .null, [], none),
  (1, 2, .bipush 35, 0, 0, .int 35, [], none),
  (3, 3, .invokevirtual 69, 158, 2, .retAddr 0, [], none),
  (6, 3, .ifCond .eq 10, 16, 0, .null, [], none),
  (9, 1, .aload_n 0, 0, 0, .null, [], none),
  (10, 3, .invokevirtual 72, 161, 1, .retAddr 0, [], none),
  (13, 3, .goto 4, 17, 0, .null, [], none),
  (16, 1, .iconst (-1), 0, 0, .int (-1), [], none),
  (17, 1, .istore_n 1, 1, 0, .null, [], none),
  (18, 1, .iload_n 1, 1, 0, .null, [], none),
  (19, 1, .iconst (-1), 0, 0, .int (-1), [], none),
  (20, 3, .if_icmp .ne 6, 26, 0, .null, [], none),
  (23, 2, .ldc 68, 0, 0, .int (-2000000000), [], none),
  (25, 1, .ireturn, 0, 0, .null, [], none),
  (26, 1, .aload_n 0, 0, 0, .null, [], none),
  (27, 1, .dup, 0, 0, .null, [], none),
  (28, 3, .getfield 33, 6, 6, .null, [], none),
  (31, 1, .iconst 1, 0, 0, .int 1, [], none),
  (32, 1, .iadd, 0, 0, .null, [], none),
  (33, 3, .putfield 33, 6, 6, .null, [], none),
  (36, 1, .iload_n 1, 1, 0, .null, [], none),
  (37, 1, .ireturn, 0, 0, .null, [], none)] : List xr_E), xr_sd xm_P 162 e := by
  have hc : xp_cd xm_P 162 = prog_9_method_14_code := rfl
  have ho : xp_own xm_P 162 = "ExchangeText$Words" := rfl
  have hm : xp_ml xm_P 162 = 2 := rfl
  exact xl_cons (xk_aload_n hc xd_162_0 rfl) <|
    xl_cons (xk_bipush hc xd_162_1 (by decide)) <|
    xl_cons (xk_callV (Y := xm_y158) ho rfl (by decide) ⟨by decide, by decide⟩ xl_36 hc xd_162_3 rfl (b' := 1) rfl xm_nd158 (T := xm_T6) (N := 7) rfl xl_533 xl_424 xl_425) <|
    xl_cons (xk_ifCond hc xd_162_6 (by decide)) <|
    xl_cons (xk_aload_n hc xd_162_9 rfl) <|
    xl_cons (xk_callV (Y := xm_y161) ho rfl (by decide) ⟨by decide, by decide⟩ xl_36 hc xd_162_10 rfl (b' := 0) rfl xm_nd161 (T := xm_T6) (N := 7) rfl xl_534 xl_428 xl_429) <|
    xl_cons (xk_goto hc xd_162_13 (by decide)) <|
    xl_cons (xk_iconst hc xd_162_16 (by decide)) <|
    xl_cons (xk_istore_n hc xd_162_17 hm rfl (by decide)) <|
    xl_cons (xk_iload_n hc xd_162_18 rfl) <|
    xl_cons (xk_iconst hc xd_162_19 (by decide)) <|
    xl_cons (xk_if_icmp hc xd_162_20 (by decide)) <|
    xl_cons (xk_ldc hc xd_162_23 ho rfl xl_532) <|
    xl_cons (xk_ireturn hc xd_162_25) <|
    xl_cons (xk_aload_n hc xd_162_26 rfl) <|
    xl_cons (xk_dup hc xd_162_27) <|
    xl_cons (xk_getfield (C := xm_C6) (T := xm_T6) (N := 7) hc xd_162_28 ho rfl (by decide) xm_u6 xl_517) <|
    xl_cons (xk_iconst hc xd_162_31 (by decide)) <|
    xl_cons (xk_iadd hc xd_162_32) <|
    xl_cons (xk_putfield (C := xm_C6) (T := xm_T6) (N := 7) (ty := xm_ty6) hc xd_162_33 ho rfl (by decide) xm_u6 xm_tk6 rfl xm_nm6 xl_517 rfl) <|
    xl_cons (xk_iload_n hc xd_162_36 rfl) <|
    xl_cons (xk_ireturn hc xd_162_37) (xl_nil)
theorem xo_162 : ∀ e ∈ xm_i162, xr_sd xm_P 162 e := xo_162_0
set_option maxRecDepth 100000 in
theorem xo_163_0 : ∀ e ∈ ([(0, 1, .aload_n 0, 0, 0, .null, [], none),
  (1, 3, .invokevirtual 64, 156, 1, .retAddr 0, [], none),
  (4, 2, .bipush 39, 0, 0, .int 39, [], none),
  (6, 3, .if_icmp .ne 16, 22, 0, .null, [], none),
  (9, 1, .aload_n 0, 0, 0, .null, [], none),
  (10, 3, .getfield 15, 6, 2, .null, [], none),
  (13, 1, .aload_n 0, 0, 0, .null, [], none),
  (14, 3, .getfield 33, 6, 6, .null, [], none),
  (17, 1, .iaload, 0, 0, .null, [], none),
  (18, 1, .iconst (-1), 0, 0, .int (-1), [], none),
  (19, 3, .if_icmp .ne 5, 24, 0, .null, [], none),
  (22, 1, .iconst (-1), 0, 0, .int (-1), [], none),
  (23, 1, .ireturn, 0, 0, .null, [], none),
  (24, 1, .iconst 0, 0, 0, .int 0, [], none),
  (25, 1, .istore_n 1, 1, 0, .null, [], none),
  (26, 1, .aload_n 0, 0, 0, .null, [], none),
  (27, 3, .getfield 9, 6, 1, .null, [], none),
  (30, 1, .aload_n 0, 0, 0, .null, [], none),
  (31, 3, .getfield 33, 6, 6, .null, [], none),
  (34, 1, .iaload, 0, 0, .null, [], none),
  (35, 1, .iconst 1, 0, 0, .int 1, [], none),
  (36, 1, .iadd, 0, 0, .null, [], none),
  (37, 1, .istore_n 2, 2, 0, .null, [], none),
  (38, 1, .iload_n 2, 2, 0, .null, [], none),
  (39, 1, .aload_n 0, 0, 0, .null, [], none),
  (40, 3, .getfield 15, 6, 2, .null, [], none),
  (43, 1, .aload_n 0, 0, 0, .null, [], none),
  (44, 3, .getfield 33, 6, 6, .null, [], none),
  (47, 1, .iaload, 0, 0, .null, [], none),
  (48, 1, .iconst 1, 0, 0, .int 1, [], none),
  (49, 1, .isub, 0, 0, .null, [], none),
  (50, 3, .if_icmp .ge 33, 83, 0, .null, [], none),
  (53, 1, .iload_n 2, 2, 0, .null, [], none),
  (54, 1, .aload_n 0, 0, 0, .null, [], none),
  (55, 3, .getfield 25, 6, 0, .null, [], none),
  (58, 1, .iload_n 2, 2, 0, .null, [], none),
  (59, 3, .invokevirtual 41, 144, 2, .retAddr 0, [], none),
  (62, 2, .bipush 39, 0, 0, .int 39, [], none),
  (64, 3, .if_icmp .ne 7, 71, 0, .null, [], none),
  (67, 1, .iconst 1, 0, 0, .int 1, [], none)] : List xr_E), xr_sd xm_P 163 e := by
  have hc : xp_cd xm_P 163 = prog_9_method_15_code := rfl
  have ho : xp_own xm_P 163 = "ExchangeText$Words" := rfl
  have hm : xp_ml xm_P 163 = 3 := rfl
  exact xl_cons (xk_aload_n hc xd_163_0 rfl) <|
    xl_cons (xk_callV (Y := xm_y156) ho rfl (by decide) ⟨by decide, by decide⟩ xl_36 hc xd_163_1 rfl (b' := 0) rfl xm_nd156 (T := xm_T6) (N := 7) rfl xl_531 xl_447 xl_448) <|
    xl_cons (xk_bipush hc xd_163_4 (by decide)) <|
    xl_cons (xk_if_icmp hc xd_163_6 (by decide)) <|
    xl_cons (xk_aload_n hc xd_163_9 rfl) <|
    xl_cons (xk_getfield (C := xm_C6) (T := xm_T6) (N := 7) hc xd_163_10 ho rfl (by decide) xm_u6 xl_512) <|
    xl_cons (xk_aload_n hc xd_163_13 rfl) <|
    xl_cons (xk_getfield (C := xm_C6) (T := xm_T6) (N := 7) hc xd_163_14 ho rfl (by decide) xm_u6 xl_517) <|
    xl_cons (xk_iaload hc xd_163_17) <|
    xl_cons (xk_iconst hc xd_163_18 (by decide)) <|
    xl_cons (xk_if_icmp hc xd_163_19 (by decide)) <|
    xl_cons (xk_iconst hc xd_163_22 (by decide)) <|
    xl_cons (xk_ireturn hc xd_163_23) <|
    xl_cons (xk_iconst hc xd_163_24 (by decide)) <|
    xl_cons (xk_istore_n hc xd_163_25 hm rfl (by decide)) <|
    xl_cons (xk_aload_n hc xd_163_26 rfl) <|
    xl_cons (xk_getfield (C := xm_C6) (T := xm_T6) (N := 7) hc xd_163_27 ho rfl (by decide) xm_u6 xl_511) <|
    xl_cons (xk_aload_n hc xd_163_30 rfl) <|
    xl_cons (xk_getfield (C := xm_C6) (T := xm_T6) (N := 7) hc xd_163_31 ho rfl (by decide) xm_u6 xl_517) <|
    xl_cons (xk_iaload hc xd_163_34) <|
    xl_cons (xk_iconst hc xd_163_35 (by decide)) <|
    xl_cons (xk_iadd hc xd_163_36) <|
    xl_cons (xk_istore_n hc xd_163_37 hm rfl (by decide)) <|
    xl_cons (xk_iload_n hc xd_163_38 rfl) <|
    xl_cons (xk_aload_n hc xd_163_39 rfl) <|
    xl_cons (xk_getfield (C := xm_C6) (T := xm_T6) (N := 7) hc xd_163_40 ho rfl (by decide) xm_u6 xl_512) <|
    xl_cons (xk_aload_n hc xd_163_43 rfl) <|
    xl_cons (xk_getfield (C := xm_C6) (T := xm_T6) (N := 7) hc xd_163_44 ho rfl (by decide) xm_u6 xl_517) <|
    xl_cons (xk_iaload hc xd_163_47) <|
    xl_cons (xk_iconst hc xd_163_48 (by decide)) <|
    xl_cons (xk_isub hc xd_163_49) <|
    xl_cons (xk_if_icmp hc xd_163_50 (by decide)) <|
    xl_cons (xk_iload_n hc xd_163_53 rfl) <|
    xl_cons (xk_aload_n hc xd_163_54 rfl) <|
    xl_cons (xk_getfield (C := xm_C6) (T := xm_T6) (N := 7) hc xd_163_55 ho rfl (by decide) xm_u6 xl_515) <|
    xl_cons (xk_iload_n hc xd_163_58 rfl) <|
    xl_cons (xk_callV (Y := xm_y144) ho rfl (by decide) ⟨by decide, by decide⟩ xl_5 hc xd_163_59 rfl (b' := 1) rfl xm_nd144 (T := xm_T1) (N := 3) rfl xl_519 xl_63 xl_64) <|
    xl_cons (xk_bipush hc xd_163_62 (by decide)) <|
    xl_cons (xk_if_icmp hc xd_163_64 (by decide)) <|
    xl_cons (xk_iconst hc xd_163_67 (by decide)) (xl_nil)
set_option maxRecDepth 100000 in
theorem xo_163_1 : ∀ e ∈ ([(68, 3, .goto 4, 72, 0, .null, [], none),
  (71, 1, .iconst 0, 0, 0, .int 0, [], none),
  (72, 1, .iadd, 0, 0, .null, [], none),
  (73, 1, .istore_n 2, 2, 0, .null, [], none),
  (74, 3, .iinc 1 1, 1, 0, .int 1, [], none),
  (77, 3, .iinc 2 1, 2, 0, .int 1, [], none),
  (80, 3, .goto (-42), 38, 0, .null, [], none),
  (83, 1, .iload_n 1, 1, 0, .null, [], none),
  (84, 1, .ireturn, 0, 0, .null, [], none)] : List xr_E), xr_sd xm_P 163 e := by
  have hc : xp_cd xm_P 163 = prog_9_method_15_code := rfl
  have ho : xp_own xm_P 163 = "ExchangeText$Words" := rfl
  have hm : xp_ml xm_P 163 = 3 := rfl
  exact xl_cons (xk_goto hc xd_163_68 (by decide)) <|
    xl_cons (xk_iconst hc xd_163_71 (by decide)) <|
    xl_cons (xk_iadd hc xd_163_72) <|
    xl_cons (xk_istore_n hc xd_163_73 hm rfl (by decide)) <|
    xl_cons (xk_iinc hc xd_163_74 hm rfl (by decide) (by decide)) <|
    xl_cons (xk_iinc hc xd_163_77 hm rfl (by decide) (by decide)) <|
    xl_cons (xk_goto hc xd_163_80 (by decide)) <|
    xl_cons (xk_iload_n hc xd_163_83 rfl) <|
    xl_cons (xk_ireturn hc xd_163_84) (xl_nil)
theorem xo_163 : ∀ e ∈ xm_i163, xr_sd xm_P 163 e := xl_app xo_163_0 (xo_163_1)
set_option maxRecDepth 100000 in
theorem xo_164_0 : ∀ e ∈ ([(0, 1, .aload_n 0, 0, 0, .null, [], none),
  (1, 3, .invokevirtual 64, 156, 1, .retAddr 0, [], none),
  (4, 2, .bipush 39, 0, 0, .int 39, [], none),
  (6, 3, .if_icmp .eq 4, 10, 0, .null, [], none),
  (9, 1, .return_, 0, 0, .null, [], none),
  (10, 1, .aload_n 0, 0, 0, .null, [], none),
  (11, 3, .getfield 9, 6, 1, .null, [], none),
  (14, 1, .aload_n 0, 0, 0, .null, [], none),
  (15, 3, .getfield 33, 6, 6, .null, [], none),
  (18, 1, .iaload, 0, 0, .null, [], none),
  (19, 1, .iconst 1, 0, 0, .int 1, [], none),
  (20, 1, .iadd, 0, 0, .null, [], none),
  (21, 1, .istore_n 3, 3, 0, .null, [], none),
  (22, 1, .iload_n 3, 3, 0, .null, [], none),
  (23, 1, .aload_n 0, 0, 0, .null, [], none),
  (24, 3, .getfield 15, 6, 2, .null, [], none),
  (27, 1, .aload_n 0, 0, 0, .null, [], none),
  (28, 3, .getfield 33, 6, 6, .null, [], none),
  (31, 1, .iaload, 0, 0, .null, [], none),
  (32, 1, .iconst 1, 0, 0, .int 1, [], none),
  (33, 1, .isub, 0, 0, .null, [], none),
  (34, 3, .if_icmp .ge 43, 77, 0, .null, [], none),
  (37, 1, .iload_n 3, 3, 0, .null, [], none),
  (38, 1, .aload_n 0, 0, 0, .null, [], none),
  (39, 3, .getfield 25, 6, 0, .null, [], none),
  (42, 1, .iload_n 3, 3, 0, .null, [], none),
  (43, 3, .invokevirtual 41, 144, 2, .retAddr 0, [], none),
  (46, 2, .bipush 39, 0, 0, .int 39, [], none),
  (48, 3, .if_icmp .ne 7, 55, 0, .null, [], none),
  (51, 1, .iconst 1, 0, 0, .int 1, [], none),
  (52, 3, .goto 4, 56, 0, .null, [], none),
  (55, 1, .iconst 0, 0, 0, .int 0, [], none),
  (56, 1, .iadd, 0, 0, .null, [], none),
  (57, 1, .istore_n 3, 3, 0, .null, [], none),
  (58, 1, .aload_n 1, 1, 0, .null, [], none),
  (59, 1, .iload_n 2, 2, 0, .null, [], none),
  (60, 1, .aload_n 0, 0, 0, .null, [], none),
  (61, 3, .getfield 25, 6, 0, .null, [], none),
  (64, 1, .iload_n 3, 3, 0, .null, [], none),
  (65, 3, .invokevirtual 41, 144, 2, .retAddr 0, [], none)] : List xr_E), xr_sd xm_P 164 e := by
  have hc : xp_cd xm_P 164 = prog_9_method_16_code := rfl
  have ho : xp_own xm_P 164 = "ExchangeText$Words" := rfl
  have hm : xp_ml xm_P 164 = 4 := rfl
  exact xl_cons (xk_aload_n hc xd_164_0 rfl) <|
    xl_cons (xk_callV (Y := xm_y156) ho rfl (by decide) ⟨by decide, by decide⟩ xl_36 hc xd_164_1 rfl (b' := 0) rfl xm_nd156 (T := xm_T6) (N := 7) rfl xl_531 xl_447 xl_448) <|
    xl_cons (xk_bipush hc xd_164_4 (by decide)) <|
    xl_cons (xk_if_icmp hc xd_164_6 (by decide)) <|
    xl_cons (xk_return_ hc xd_164_9) <|
    xl_cons (xk_aload_n hc xd_164_10 rfl) <|
    xl_cons (xk_getfield (C := xm_C6) (T := xm_T6) (N := 7) hc xd_164_11 ho rfl (by decide) xm_u6 xl_511) <|
    xl_cons (xk_aload_n hc xd_164_14 rfl) <|
    xl_cons (xk_getfield (C := xm_C6) (T := xm_T6) (N := 7) hc xd_164_15 ho rfl (by decide) xm_u6 xl_517) <|
    xl_cons (xk_iaload hc xd_164_18) <|
    xl_cons (xk_iconst hc xd_164_19 (by decide)) <|
    xl_cons (xk_iadd hc xd_164_20) <|
    xl_cons (xk_istore_n hc xd_164_21 hm rfl (by decide)) <|
    xl_cons (xk_iload_n hc xd_164_22 rfl) <|
    xl_cons (xk_aload_n hc xd_164_23 rfl) <|
    xl_cons (xk_getfield (C := xm_C6) (T := xm_T6) (N := 7) hc xd_164_24 ho rfl (by decide) xm_u6 xl_512) <|
    xl_cons (xk_aload_n hc xd_164_27 rfl) <|
    xl_cons (xk_getfield (C := xm_C6) (T := xm_T6) (N := 7) hc xd_164_28 ho rfl (by decide) xm_u6 xl_517) <|
    xl_cons (xk_iaload hc xd_164_31) <|
    xl_cons (xk_iconst hc xd_164_32 (by decide)) <|
    xl_cons (xk_isub hc xd_164_33) <|
    xl_cons (xk_if_icmp hc xd_164_34 (by decide)) <|
    xl_cons (xk_iload_n hc xd_164_37 rfl) <|
    xl_cons (xk_aload_n hc xd_164_38 rfl) <|
    xl_cons (xk_getfield (C := xm_C6) (T := xm_T6) (N := 7) hc xd_164_39 ho rfl (by decide) xm_u6 xl_515) <|
    xl_cons (xk_iload_n hc xd_164_42 rfl) <|
    xl_cons (xk_callV (Y := xm_y144) ho rfl (by decide) ⟨by decide, by decide⟩ xl_5 hc xd_164_43 rfl (b' := 1) rfl xm_nd144 (T := xm_T1) (N := 3) rfl xl_519 xl_63 xl_64) <|
    xl_cons (xk_bipush hc xd_164_46 (by decide)) <|
    xl_cons (xk_if_icmp hc xd_164_48 (by decide)) <|
    xl_cons (xk_iconst hc xd_164_51 (by decide)) <|
    xl_cons (xk_goto hc xd_164_52 (by decide)) <|
    xl_cons (xk_iconst hc xd_164_55 (by decide)) <|
    xl_cons (xk_iadd hc xd_164_56) <|
    xl_cons (xk_istore_n hc xd_164_57 hm rfl (by decide)) <|
    xl_cons (xk_aload_n hc xd_164_58 rfl) <|
    xl_cons (xk_iload_n hc xd_164_59 rfl) <|
    xl_cons (xk_aload_n hc xd_164_60 rfl) <|
    xl_cons (xk_getfield (C := xm_C6) (T := xm_T6) (N := 7) hc xd_164_61 ho rfl (by decide) xm_u6 xl_515) <|
    xl_cons (xk_iload_n hc xd_164_64 rfl) <|
    xl_cons (xk_callV (Y := xm_y144) ho rfl (by decide) ⟨by decide, by decide⟩ xl_5 hc xd_164_65 rfl (b' := 1) rfl xm_nd144 (T := xm_T1) (N := 3) rfl xl_519 xl_63 xl_64) (xl_nil)
set_option maxRecDepth 100000 in
theorem xo_164_1 : ∀ e ∈ ([(68, 3, .invokevirtual 76, 118, 3, .retAddr 0, [], none),
  (71, 3, .iinc 3 1, 3, 0, .int 1, [], none),
  (74, 3, .goto (-52), 22, 0, .null, [], none),
  (77, 1, .aload_n 0, 0, 0, .null, [], none),
  (78, 1, .dup, 0, 0, .null, [], none),
  (79, 3, .getfield 33, 6, 6, .null, [], none),
  (82, 1, .iconst 1, 0, 0, .int 1, [], none),
  (83, 1, .iadd, 0, 0, .null, [], none),
  (84, 3, .putfield 33, 6, 6, .null, [], none),
  (87, 1, .return_, 0, 0, .null, [], none)] : List xr_E), xr_sd xm_P 164 e := by
  have hc : xp_cd xm_P 164 = prog_9_method_16_code := rfl
  have ho : xp_own xm_P 164 = "ExchangeText$Words" := rfl
  have hm : xp_ml xm_P 164 = 4 := rfl
  exact xl_cons (xk_callV (Y := xm_y118) ho rfl (by decide) ⟨by decide, by decide⟩ xl_17 hc xd_164_68 rfl (b' := 2) rfl xm_nd118 (T := xm_T3) (N := 11) rfl xl_535 xl_478 xl_479) <|
    xl_cons (xk_iinc hc xd_164_71 hm rfl (by decide) (by decide)) <|
    xl_cons (xk_goto hc xd_164_74 (by decide)) <|
    xl_cons (xk_aload_n hc xd_164_77 rfl) <|
    xl_cons (xk_dup hc xd_164_78) <|
    xl_cons (xk_getfield (C := xm_C6) (T := xm_T6) (N := 7) hc xd_164_79 ho rfl (by decide) xm_u6 xl_517) <|
    xl_cons (xk_iconst hc xd_164_82 (by decide)) <|
    xl_cons (xk_iadd hc xd_164_83) <|
    xl_cons (xk_putfield (C := xm_C6) (T := xm_T6) (N := 7) (ty := xm_ty6) hc xd_164_84 ho rfl (by decide) xm_u6 xm_tk6 rfl xm_nm6 xl_517 rfl) <|
    xl_cons (xk_return_ hc xd_164_87) (xl_nil)
theorem xo_164 : ∀ e ∈ xm_i164, xr_sd xm_P 164 e := xl_app xo_164_0 (xo_164_1)
set_option maxRecDepth 100000 in
theorem xo_165_0 : ∀ e ∈ ([(0, 1, .aload_n 0, 0, 0, .null, [], none),
  (1, 3, .invokevirtual 64, 156, 1, .retAddr 0, [], none),
  (4, 3, .invokestatic 45, 29, 1, .retAddr 3, [], none),
  (7, 3, .ifCond .ne 4, 11, 0, .null, [], none),
  (10, 1, .return_, 0, 0, .null, [], none),
  (11, 1, .aload_n 0, 0, 0, .null, [], none),
  (12, 3, .getfield 9, 6, 1, .null, [], none),
  (15, 1, .aload_n 0, 0, 0, .null, [], none),
  (16, 3, .getfield 33, 6, 6, .null, [], none),
  (19, 1, .iaload, 0, 0, .null, [], none),
  (20, 1, .istore_n 3, 3, 0, .null, [], none),
  (21, 1, .iload_n 3, 3, 0, .null, [], none),
  (22, 1, .aload_n 0, 0, 0, .null, [], none),
  (23, 3, .getfield 15, 6, 2, .null, [], none),
  (26, 1, .aload_n 0, 0, 0, .null, [], none),
  (27, 3, .getfield 33, 6, 6, .null, [], none),
  (30, 1, .iaload, 0, 0, .null, [], none),
  (31, 3, .if_icmp .ge 22, 53, 0, .null, [], none),
  (34, 1, .aload_n 1, 1, 0, .null, [], none),
  (35, 1, .iload_n 2, 2, 0, .null, [], none),
  (36, 1, .aload_n 0, 0, 0, .null, [], none),
  (37, 3, .getfield 25, 6, 0, .null, [], none),
  (40, 1, .iload_n 3, 3, 0, .null, [], none),
  (41, 3, .invokevirtual 41, 144, 2, .retAddr 0, [], none),
  (44, 3, .invokevirtual 76, 118, 3, .retAddr 0, [], none),
  (47, 3, .iinc 3 1, 3, 0, .int 1, [], none),
  (50, 3, .goto (-29), 21, 0, .null, [], none),
  (53, 1, .aload_n 0, 0, 0, .null, [], none),
  (54, 1, .dup, 0, 0, .null, [], none),
  (55, 3, .getfield 33, 6, 6, .null, [], none),
  (58, 1, .iconst 1, 0, 0, .int 1, [], none),
  (59, 1, .iadd, 0, 0, .null, [], none),
  (60, 3, .putfield 33, 6, 6, .null, [], none),
  (63, 1, .return_, 0, 0, .null, [], none)] : List xr_E), xr_sd xm_P 165 e := by
  have hc : xp_cd xm_P 165 = prog_9_method_17_code := rfl
  have ho : xp_own xm_P 165 = "ExchangeText$Words" := rfl
  have hm : xp_ml xm_P 165 = 4 := rfl
  exact xl_cons (xk_aload_n hc xd_165_0 rfl) <|
    xl_cons (xk_callV (Y := xm_y156) ho rfl (by decide) ⟨by decide, by decide⟩ xl_36 hc xd_165_1 rfl (b' := 0) rfl xm_nd156 (T := xm_T6) (N := 7) rfl xl_531 xl_447 xl_448) <|
    xl_cons (xk_callSN (Y := xm_y29) ho rfl (by decide) ⟨by decide, by decide⟩ xl_52 hc xd_165_4 rfl xm_nd29 xz_13 xl_520) <|
    xl_cons (xk_ifCond hc xd_165_7 (by decide)) <|
    xl_cons (xk_return_ hc xd_165_10) <|
    xl_cons (xk_aload_n hc xd_165_11 rfl) <|
    xl_cons (xk_getfield (C := xm_C6) (T := xm_T6) (N := 7) hc xd_165_12 ho rfl (by decide) xm_u6 xl_511) <|
    xl_cons (xk_aload_n hc xd_165_15 rfl) <|
    xl_cons (xk_getfield (C := xm_C6) (T := xm_T6) (N := 7) hc xd_165_16 ho rfl (by decide) xm_u6 xl_517) <|
    xl_cons (xk_iaload hc xd_165_19) <|
    xl_cons (xk_istore_n hc xd_165_20 hm rfl (by decide)) <|
    xl_cons (xk_iload_n hc xd_165_21 rfl) <|
    xl_cons (xk_aload_n hc xd_165_22 rfl) <|
    xl_cons (xk_getfield (C := xm_C6) (T := xm_T6) (N := 7) hc xd_165_23 ho rfl (by decide) xm_u6 xl_512) <|
    xl_cons (xk_aload_n hc xd_165_26 rfl) <|
    xl_cons (xk_getfield (C := xm_C6) (T := xm_T6) (N := 7) hc xd_165_27 ho rfl (by decide) xm_u6 xl_517) <|
    xl_cons (xk_iaload hc xd_165_30) <|
    xl_cons (xk_if_icmp hc xd_165_31 (by decide)) <|
    xl_cons (xk_aload_n hc xd_165_34 rfl) <|
    xl_cons (xk_iload_n hc xd_165_35 rfl) <|
    xl_cons (xk_aload_n hc xd_165_36 rfl) <|
    xl_cons (xk_getfield (C := xm_C6) (T := xm_T6) (N := 7) hc xd_165_37 ho rfl (by decide) xm_u6 xl_515) <|
    xl_cons (xk_iload_n hc xd_165_40 rfl) <|
    xl_cons (xk_callV (Y := xm_y144) ho rfl (by decide) ⟨by decide, by decide⟩ xl_5 hc xd_165_41 rfl (b' := 1) rfl xm_nd144 (T := xm_T1) (N := 3) rfl xl_519 xl_63 xl_64) <|
    xl_cons (xk_callV (Y := xm_y118) ho rfl (by decide) ⟨by decide, by decide⟩ xl_17 hc xd_165_44 rfl (b' := 2) rfl xm_nd118 (T := xm_T3) (N := 11) rfl xl_535 xl_478 xl_479) <|
    xl_cons (xk_iinc hc xd_165_47 hm rfl (by decide) (by decide)) <|
    xl_cons (xk_goto hc xd_165_50 (by decide)) <|
    xl_cons (xk_aload_n hc xd_165_53 rfl) <|
    xl_cons (xk_dup hc xd_165_54) <|
    xl_cons (xk_getfield (C := xm_C6) (T := xm_T6) (N := 7) hc xd_165_55 ho rfl (by decide) xm_u6 xl_517) <|
    xl_cons (xk_iconst hc xd_165_58 (by decide)) <|
    xl_cons (xk_iadd hc xd_165_59) <|
    xl_cons (xk_putfield (C := xm_C6) (T := xm_T6) (N := 7) (ty := xm_ty6) hc xd_165_60 ho rfl (by decide) xm_u6 xm_tk6 rfl xm_nm6 xl_517 rfl) <|
    xl_cons (xk_return_ hc xd_165_63) (xl_nil)
theorem xo_165 : ∀ e ∈ xm_i165, xr_sd xm_P 165 e := xo_165_0
set_option maxRecDepth 100000 in
theorem xo_166_0 : ∀ e ∈ ([(0, 1, .aload_n 2, 2, 0, .null, [], none),
  (1, 2, .bipush 35, 0, 0, .int 35, [], none),
  (3, 3, .invokevirtual 9, 142, 2, .retAddr 0, [], none),
  (6, 1, .aload_n 0, 0, 0, .null, [], none),
  (7, 3, .getfield 15, 3, 3, .null, [], none),
  (10, 1, .iload_n 1, 1, 0, .null, [], none),
  (11, 1, .iaload, 0, 0, .null, [], none),
  (12, 1, .aload_n 2, 2, 0, .null, [], none),
  (13, 3, .invokestatic 21, 170, 2, .retAddr 2, [], none),
  (16, 1, .aload_n 2, 2, 0, .null, [], none),
  (17, 2, .bipush 61, 0, 0, .int 61, [], none),
  (19, 3, .invokevirtual 9, 142, 2, .retAddr 0, [], none),
  (22, 1, .aload_n 2, 2, 0, .null, [], none),
  (23, 1, .aload_n 0, 0, 0, .null, [], none),
  (24, 3, .getfield 27, 3, 4, .null, [], none),
  (27, 1, .iload_n 1, 1, 0, .null, [], none),
  (28, 1, .laload, 0, 0, .null, [], none),
  (29, 3, .invokevirtual 31, 143, 2, .retAddr 0, [], none),
  (32, 1, .aload_n 2, 2, 0, .null, [], none),
  (33, 2, .bipush 40, 0, 0, .int 40, [], none),
  (35, 3, .invokevirtual 9, 142, 2, .retAddr 0, [], none),
  (38, 1, .iconst 0, 0, 0, .int 0, [], none),
  (39, 1, .istore_n 3, 3, 0, .null, [], none),
  (40, 1, .iload_n 3, 3, 0, .null, [], none),
  (41, 1, .aload_n 0, 0, 0, .null, [], none),
  (42, 3, .getfield 35, 3, 5, .null, [], none),
  (45, 1, .iload_n 1, 1, 0, .null, [], none),
  (46, 1, .iaload, 0, 0, .null, [], none),
  (47, 3, .if_icmp .ge 30, 77, 0, .null, [], none),
  (50, 1, .iload_n 3, 3, 0, .null, [], none),
  (51, 3, .ifCond .le 9, 60, 0, .null, [], none),
  (54, 1, .aload_n 2, 2, 0, .null, [], none),
  (55, 2, .bipush 44, 0, 0, .int 44, [], none),
  (57, 3, .invokevirtual 9, 142, 2, .retAddr 0, [], none),
  (60, 1, .aload_n 0, 0, 0, .null, [], none),
  (61, 1, .iload_n 1, 1, 0, .null, [], none),
  (62, 2, .bipush 8, 0, 0, .int 8, [], none),
  (64, 1, .imul, 0, 0, .null, [], none),
  (65, 1, .iload_n 3, 3, 0, .null, [], none),
  (66, 1, .iadd, 0, 0, .null, [], none)] : List xr_E), xr_sd xm_P 166 e := by
  have hc : xp_cd xm_P 166 = prog_10_method_2_code := rfl
  have ho : xp_own xm_P 166 = "ExchangeText$Writer" := rfl
  have hm : xp_ml xm_P 166 = 4 := rfl
  exact xl_cons (xk_aload_n hc xd_166_0 rfl) <|
    xl_cons (xk_bipush hc xd_166_1 (by decide)) <|
    xl_cons (xk_callV (Y := xm_y142) ho rfl (by decide) ⟨by decide, by decide⟩ xl_5 hc xd_166_3 rfl (b' := 1) rfl xm_nd142 (T := xm_T1) (N := 3) rfl xl_536 xl_486 xl_487) <|
    xl_cons (xk_aload_n hc xd_166_6 rfl) <|
    xl_cons (xk_getfield (C := xm_C3) (T := xm_T3) (N := 11) hc xd_166_7 ho rfl (by decide) xm_u3 xl_537) <|
    xl_cons (xk_iload_n hc xd_166_10 rfl) <|
    xl_cons (xk_iaload hc xd_166_11) <|
    xl_cons (xk_aload_n hc xd_166_12 rfl) <|
    xl_cons (xk_callS (Y := xm_y170) ho rfl (by decide) ⟨by decide, by decide⟩ xl_97 hc xd_166_13 rfl xm_nd170 xl_538 xl_539) <|
    xl_cons (xk_aload_n hc xd_166_16 rfl) <|
    xl_cons (xk_bipush hc xd_166_17 (by decide)) <|
    xl_cons (xk_callV (Y := xm_y142) ho rfl (by decide) ⟨by decide, by decide⟩ xl_5 hc xd_166_19 rfl (b' := 1) rfl xm_nd142 (T := xm_T1) (N := 3) rfl xl_536 xl_486 xl_487) <|
    xl_cons (xk_aload_n hc xd_166_22 rfl) <|
    xl_cons (xk_aload_n hc xd_166_23 rfl) <|
    xl_cons (xk_getfield (C := xm_C3) (T := xm_T3) (N := 11) hc xd_166_24 ho rfl (by decide) xm_u3 xl_540) <|
    xl_cons (xk_iload_n hc xd_166_27 rfl) <|
    xl_cons (xk_laload hc xd_166_28) <|
    xl_cons (xk_callV (Y := xm_y143) ho rfl (by decide) ⟨by decide, by decide⟩ xl_5 hc xd_166_29 rfl (b' := 1) rfl xm_nd143 (T := xm_T1) (N := 3) rfl xl_541 xl_60 xl_61) <|
    xl_cons (xk_aload_n hc xd_166_32 rfl) <|
    xl_cons (xk_bipush hc xd_166_33 (by decide)) <|
    xl_cons (xk_callV (Y := xm_y142) ho rfl (by decide) ⟨by decide, by decide⟩ xl_5 hc xd_166_35 rfl (b' := 1) rfl xm_nd142 (T := xm_T1) (N := 3) rfl xl_536 xl_486 xl_487) <|
    xl_cons (xk_iconst hc xd_166_38 (by decide)) <|
    xl_cons (xk_istore_n hc xd_166_39 hm rfl (by decide)) <|
    xl_cons (xk_iload_n hc xd_166_40 rfl) <|
    xl_cons (xk_aload_n hc xd_166_41 rfl) <|
    xl_cons (xk_getfield (C := xm_C3) (T := xm_T3) (N := 11) hc xd_166_42 ho rfl (by decide) xm_u3 xl_542) <|
    xl_cons (xk_iload_n hc xd_166_45 rfl) <|
    xl_cons (xk_iaload hc xd_166_46) <|
    xl_cons (xk_if_icmp hc xd_166_47 (by decide)) <|
    xl_cons (xk_iload_n hc xd_166_50 rfl) <|
    xl_cons (xk_ifCond hc xd_166_51 (by decide)) <|
    xl_cons (xk_aload_n hc xd_166_54 rfl) <|
    xl_cons (xk_bipush hc xd_166_55 (by decide)) <|
    xl_cons (xk_callV (Y := xm_y142) ho rfl (by decide) ⟨by decide, by decide⟩ xl_5 hc xd_166_57 rfl (b' := 1) rfl xm_nd142 (T := xm_T1) (N := 3) rfl xl_536 xl_486 xl_487) <|
    xl_cons (xk_aload_n hc xd_166_60 rfl) <|
    xl_cons (xk_iload_n hc xd_166_61 rfl) <|
    xl_cons (xk_bipush hc xd_166_62 (by decide)) <|
    xl_cons (xk_imul hc xd_166_64) <|
    xl_cons (xk_iload_n hc xd_166_65 rfl) <|
    xl_cons (xk_iadd hc xd_166_66) (xl_nil)
set_option maxRecDepth 100000 in
theorem xo_166_1 : ∀ e ∈ ([(67, 1, .aload_n 2, 2, 0, .null, [], none),
  (68, 3, .invokestatic 38, 167, 3, .retAddr 2, [], none),
  (71, 3, .iinc 3 1, 3, 0, .int 1, [], none),
  (74, 3, .goto (-34), 40, 0, .null, [], none),
  (77, 1, .aload_n 2, 2, 0, .null, [], none),
  (78, 2, .bipush 41, 0, 0, .int 41, [], none),
  (80, 3, .invokevirtual 9, 142, 2, .retAddr 0, [], none),
  (83, 1, .aload_n 2, 2, 0, .null, [], none),
  (84, 2, .bipush 59, 0, 0, .int 59, [], none),
  (86, 3, .invokevirtual 9, 142, 2, .retAddr 0, [], none),
  (89, 1, .return_, 0, 0, .null, [], none)] : List xr_E), xr_sd xm_P 166 e := by
  have hc : xp_cd xm_P 166 = prog_10_method_2_code := rfl
  have ho : xp_own xm_P 166 = "ExchangeText$Writer" := rfl
  have hm : xp_ml xm_P 166 = 4 := rfl
  exact xl_cons (xk_aload_n hc xd_166_67 rfl) <|
    xl_cons (xk_callS (Y := xm_y167) ho rfl (by decide) ⟨by decide, by decide⟩ xl_97 hc xd_166_68 rfl xm_nd167 xl_543 xl_544) <|
    xl_cons (xk_iinc hc xd_166_71 hm rfl (by decide) (by decide)) <|
    xl_cons (xk_goto hc xd_166_74 (by decide)) <|
    xl_cons (xk_aload_n hc xd_166_77 rfl) <|
    xl_cons (xk_bipush hc xd_166_78 (by decide)) <|
    xl_cons (xk_callV (Y := xm_y142) ho rfl (by decide) ⟨by decide, by decide⟩ xl_5 hc xd_166_80 rfl (b' := 1) rfl xm_nd142 (T := xm_T1) (N := 3) rfl xl_536 xl_486 xl_487) <|
    xl_cons (xk_aload_n hc xd_166_83 rfl) <|
    xl_cons (xk_bipush hc xd_166_84 (by decide)) <|
    xl_cons (xk_callV (Y := xm_y142) ho rfl (by decide) ⟨by decide, by decide⟩ xl_5 hc xd_166_86 rfl (b' := 1) rfl xm_nd142 (T := xm_T1) (N := 3) rfl xl_536 xl_486 xl_487) <|
    xl_cons (xk_return_ hc xd_166_89) (xl_nil)
theorem xo_166 : ∀ e ∈ xm_i166, xr_sd xm_P 166 e := xl_app xo_166_0 (xo_166_1)
set_option maxRecDepth 100000 in
theorem xo_167_0 : ∀ e ∈ ([(0, 1, .aload_n 0, 0, 0, .null, [], none),
  (1, 3, .getfield 42, 3, 7, .null, [], none),
  (4, 1, .iload_n 1, 1, 0, .null, [], none),
  (5, 1, .iaload, 0, 0, .null, [], none),
  (6, 42, .tableswitch 105 0 6 #[42, 55, 66, 105, 105, 85, 96], 111, 0, .null, [(0, 48), (1, 61), (2, 72), (3, 111), (4, 111), (5, 91), (6, 102)], none),
  (48, 1, .aload_n 0, 0, 0, .null, [], none),
  (49, 3, .getfield 45, 3, 8, .null, [], none),
  (52, 1, .iload_n 1, 1, 0, .null, [], none),
  (53, 1, .iaload, 0, 0, .null, [], none),
  (54, 1, .aload_n 2, 2, 0, .null, [], none),
  (55, 3, .invokestatic 21, 170, 2, .retAddr 2, [], none),
  (58, 3, .goto 59, 117, 0, .null, [], none),
  (61, 1, .aload_n 0, 0, 0, .null, [], none),
  (62, 1, .iload_n 1, 1, 0, .null, [], none),
  (63, 2, .bipush 39, 0, 0, .int 39, [], none),
  (65, 1, .aload_n 2, 2, 0, .null, [], none),
  (66, 3, .invokestatic 48, 168, 4, .retAddr 2, [], none),
  (69, 3, .goto 48, 117, 0, .null, [], none),
  (72, 1, .aload_n 2, 2, 0, .null, [], none),
  (73, 2, .bipush 35, 0, 0, .int 35, [], none),
  (75, 3, .invokevirtual 9, 142, 2, .retAddr 0, [], none),
  (78, 1, .aload_n 0, 0, 0, .null, [], none),
  (79, 3, .getfield 45, 3, 8, .null, [], none),
  (82, 1, .iload_n 1, 1, 0, .null, [], none),
  (83, 1, .iaload, 0, 0, .null, [], none),
  (84, 1, .aload_n 2, 2, 0, .null, [], none),
  (85, 3, .invokestatic 21, 170, 2, .retAddr 2, [], none),
  (88, 3, .goto 29, 117, 0, .null, [], none),
  (91, 1, .aload_n 0, 0, 0, .null, [], none),
  (92, 1, .iload_n 1, 1, 0, .null, [], none),
  (93, 2, .bipush 46, 0, 0, .int 46, [], none),
  (95, 1, .aload_n 2, 2, 0, .null, [], none),
  (96, 3, .invokestatic 48, 168, 4, .retAddr 2, [], none),
  (99, 3, .goto 18, 117, 0, .null, [], none),
  (102, 1, .aload_n 2, 2, 0, .null, [], none),
  (103, 2, .bipush 36, 0, 0, .int 36, [], none),
  (105, 3, .invokevirtual 9, 142, 2, .retAddr 0, [], none),
  (108, 3, .goto 9, 117, 0, .null, [], none),
  (111, 1, .aload_n 0, 0, 0, .null, [], none),
  (112, 1, .iload_n 1, 1, 0, .null, [], none)] : List xr_E), xr_sd xm_P 167 e := by
  have hc : xp_cd xm_P 167 = prog_10_method_3_code := rfl
  have ho : xp_own xm_P 167 = "ExchangeText$Writer" := rfl
  have hm : xp_ml xm_P 167 = 3 := rfl
  exact xl_cons (xk_aload_n hc xd_167_0 rfl) <|
    xl_cons (xk_getfield (C := xm_C3) (T := xm_T3) (N := 11) hc xd_167_1 ho rfl (by decide) xm_u3 xl_545) <|
    xl_cons (xk_iload_n hc xd_167_4 rfl) <|
    xl_cons (xk_iaload hc xd_167_5) <|
    xl_cons (xk_tableswitch hc xd_167_6 (by decide) xs_167_6) <|
    xl_cons (xk_aload_n hc xd_167_48 rfl) <|
    xl_cons (xk_getfield (C := xm_C3) (T := xm_T3) (N := 11) hc xd_167_49 ho rfl (by decide) xm_u3 xl_546) <|
    xl_cons (xk_iload_n hc xd_167_52 rfl) <|
    xl_cons (xk_iaload hc xd_167_53) <|
    xl_cons (xk_aload_n hc xd_167_54 rfl) <|
    xl_cons (xk_callS (Y := xm_y170) ho rfl (by decide) ⟨by decide, by decide⟩ xl_97 hc xd_167_55 rfl xm_nd170 xl_538 xl_539) <|
    xl_cons (xk_goto hc xd_167_58 (by decide)) <|
    xl_cons (xk_aload_n hc xd_167_61 rfl) <|
    xl_cons (xk_iload_n hc xd_167_62 rfl) <|
    xl_cons (xk_bipush hc xd_167_63 (by decide)) <|
    xl_cons (xk_aload_n hc xd_167_65 rfl) <|
    xl_cons (xk_callS (Y := xm_y168) ho rfl (by decide) ⟨by decide, by decide⟩ xl_97 hc xd_167_66 rfl xm_nd168 xl_547 xl_548) <|
    xl_cons (xk_goto hc xd_167_69 (by decide)) <|
    xl_cons (xk_aload_n hc xd_167_72 rfl) <|
    xl_cons (xk_bipush hc xd_167_73 (by decide)) <|
    xl_cons (xk_callV (Y := xm_y142) ho rfl (by decide) ⟨by decide, by decide⟩ xl_5 hc xd_167_75 rfl (b' := 1) rfl xm_nd142 (T := xm_T1) (N := 3) rfl xl_536 xl_486 xl_487) <|
    xl_cons (xk_aload_n hc xd_167_78 rfl) <|
    xl_cons (xk_getfield (C := xm_C3) (T := xm_T3) (N := 11) hc xd_167_79 ho rfl (by decide) xm_u3 xl_546) <|
    xl_cons (xk_iload_n hc xd_167_82 rfl) <|
    xl_cons (xk_iaload hc xd_167_83) <|
    xl_cons (xk_aload_n hc xd_167_84 rfl) <|
    xl_cons (xk_callS (Y := xm_y170) ho rfl (by decide) ⟨by decide, by decide⟩ xl_97 hc xd_167_85 rfl xm_nd170 xl_538 xl_539) <|
    xl_cons (xk_goto hc xd_167_88 (by decide)) <|
    xl_cons (xk_aload_n hc xd_167_91 rfl) <|
    xl_cons (xk_iload_n hc xd_167_92 rfl) <|
    xl_cons (xk_bipush hc xd_167_93 (by decide)) <|
    xl_cons (xk_aload_n hc xd_167_95 rfl) <|
    xl_cons (xk_callS (Y := xm_y168) ho rfl (by decide) ⟨by decide, by decide⟩ xl_97 hc xd_167_96 rfl xm_nd168 xl_547 xl_548) <|
    xl_cons (xk_goto hc xd_167_99 (by decide)) <|
    xl_cons (xk_aload_n hc xd_167_102 rfl) <|
    xl_cons (xk_bipush hc xd_167_103 (by decide)) <|
    xl_cons (xk_callV (Y := xm_y142) ho rfl (by decide) ⟨by decide, by decide⟩ xl_5 hc xd_167_105 rfl (b' := 1) rfl xm_nd142 (T := xm_T1) (N := 3) rfl xl_536 xl_486 xl_487) <|
    xl_cons (xk_goto hc xd_167_108 (by decide)) <|
    xl_cons (xk_aload_n hc xd_167_111 rfl) <|
    xl_cons (xk_iload_n hc xd_167_112 rfl) (xl_nil)
set_option maxRecDepth 100000 in
theorem xo_167_1 : ∀ e ∈ ([(113, 1, .aload_n 2, 2, 0, .null, [], none),
  (114, 3, .invokestatic 52, 169, 3, .retAddr 2, [], none),
  (117, 1, .return_, 0, 0, .null, [], none)] : List xr_E), xr_sd xm_P 167 e := by
  have hc : xp_cd xm_P 167 = prog_10_method_3_code := rfl
  have ho : xp_own xm_P 167 = "ExchangeText$Writer" := rfl
  have hm : xp_ml xm_P 167 = 3 := rfl
  exact xl_cons (xk_aload_n hc xd_167_113 rfl) <|
    xl_cons (xk_callS (Y := xm_y169) ho rfl (by decide) ⟨by decide, by decide⟩ xl_97 hc xd_167_114 rfl xm_nd169 xl_549 xl_550) <|
    xl_cons (xk_return_ hc xd_167_117) (xl_nil)
theorem xo_167 : ∀ e ∈ xm_i167, xr_sd xm_P 167 e := xl_app xo_167_0 (xo_167_1)
set_option maxRecDepth 100000 in
theorem xo_168_0 : ∀ e ∈ ([(0, 1, .aload_n 3, 3, 0, .null, [], none),
  (1, 1, .iload_n 2, 2, 0, .null, [], none),
  (2, 3, .invokevirtual 9, 142, 2, .retAddr 0, [], none),
  (5, 1, .iconst 0, 0, 0, .int 0, [], none),
  (6, 2, .istore 4, 4, 0, .null, [], none),
  (8, 2, .iload 4, 4, 0, .null, [], none),
  (10, 1, .aload_n 0, 0, 0, .null, [], none),
  (11, 1, .iload_n 1, 1, 0, .null, [], none),
  (12, 3, .invokevirtual 55, 119, 2, .retAddr 0, [], none),
  (15, 3, .if_icmp .ge 37, 52, 0, .null, [], none),
  (18, 1, .aload_n 0, 0, 0, .null, [], none),
  (19, 1, .iload_n 1, 1, 0, .null, [], none),
  (20, 2, .iload 4, 4, 0, .null, [], none),
  (22, 3, .invokevirtual 59, 120, 3, .retAddr 0, [], none),
  (25, 1, .i2c, 0, 0, .null, [], none),
  (26, 2, .istore 5, 5, 0, .null, [], none),
  (28, 1, .aload_n 3, 3, 0, .null, [], none),
  (29, 2, .iload 5, 5, 0, .null, [], none),
  (31, 3, .invokevirtual 9, 142, 2, .retAddr 0, [], none),
  (34, 2, .iload 5, 5, 0, .null, [], none),
  (36, 1, .iload_n 2, 2, 0, .null, [], none),
  (37, 3, .if_icmp .ne 9, 46, 0, .null, [], none),
  (40, 1, .aload_n 3, 3, 0, .null, [], none),
  (41, 2, .iload 5, 5, 0, .null, [], none),
  (43, 3, .invokevirtual 9, 142, 2, .retAddr 0, [], none),
  (46, 3, .iinc 4 1, 4, 0, .int 1, [], none),
  (49, 3, .goto (-41), 8, 0, .null, [], none),
  (52, 1, .aload_n 3, 3, 0, .null, [], none),
  (53, 1, .iload_n 2, 2, 0, .null, [], none),
  (54, 3, .invokevirtual 9, 142, 2, .retAddr 0, [], none),
  (57, 1, .return_, 0, 0, .null, [], none)] : List xr_E), xr_sd xm_P 168 e := by
  have hc : xp_cd xm_P 168 = prog_10_method_4_code := rfl
  have ho : xp_own xm_P 168 = "ExchangeText$Writer" := rfl
  have hm : xp_ml xm_P 168 = 6 := rfl
  exact xl_cons (xk_aload_n hc xd_168_0 rfl) <|
    xl_cons (xk_iload_n hc xd_168_1 rfl) <|
    xl_cons (xk_callV (Y := xm_y142) ho rfl (by decide) ⟨by decide, by decide⟩ xl_5 hc xd_168_2 rfl (b' := 1) rfl xm_nd142 (T := xm_T1) (N := 3) rfl xl_536 xl_486 xl_487) <|
    xl_cons (xk_iconst hc xd_168_5 (by decide)) <|
    xl_cons (xk_istore hc xd_168_6 hm rfl (by decide)) <|
    xl_cons (xk_iload hc xd_168_8 rfl) <|
    xl_cons (xk_aload_n hc xd_168_10 rfl) <|
    xl_cons (xk_iload_n hc xd_168_11 rfl) <|
    xl_cons (xk_callV (Y := xm_y119) ho rfl (by decide) ⟨by decide, by decide⟩ xl_17 hc xd_168_12 rfl (b' := 1) rfl xm_nd119 (T := xm_T3) (N := 11) rfl xl_551 xl_124 xl_125) <|
    xl_cons (xk_if_icmp hc xd_168_15 (by decide)) <|
    xl_cons (xk_aload_n hc xd_168_18 rfl) <|
    xl_cons (xk_iload_n hc xd_168_19 rfl) <|
    xl_cons (xk_iload hc xd_168_20 rfl) <|
    xl_cons (xk_callV (Y := xm_y120) ho rfl (by decide) ⟨by decide, by decide⟩ xl_17 hc xd_168_22 rfl (b' := 2) rfl xm_nd120 (T := xm_T3) (N := 11) rfl xl_552 xl_127 xl_128) <|
    xl_cons (xk_i2c hc xd_168_25) <|
    xl_cons (xk_istore hc xd_168_26 hm rfl (by decide)) <|
    xl_cons (xk_aload_n hc xd_168_28 rfl) <|
    xl_cons (xk_iload hc xd_168_29 rfl) <|
    xl_cons (xk_callV (Y := xm_y142) ho rfl (by decide) ⟨by decide, by decide⟩ xl_5 hc xd_168_31 rfl (b' := 1) rfl xm_nd142 (T := xm_T1) (N := 3) rfl xl_536 xl_486 xl_487) <|
    xl_cons (xk_iload hc xd_168_34 rfl) <|
    xl_cons (xk_iload_n hc xd_168_36 rfl) <|
    xl_cons (xk_if_icmp hc xd_168_37 (by decide)) <|
    xl_cons (xk_aload_n hc xd_168_40 rfl) <|
    xl_cons (xk_iload hc xd_168_41 rfl) <|
    xl_cons (xk_callV (Y := xm_y142) ho rfl (by decide) ⟨by decide, by decide⟩ xl_5 hc xd_168_43 rfl (b' := 1) rfl xm_nd142 (T := xm_T1) (N := 3) rfl xl_536 xl_486 xl_487) <|
    xl_cons (xk_iinc hc xd_168_46 hm rfl (by decide) (by decide)) <|
    xl_cons (xk_goto hc xd_168_49 (by decide)) <|
    xl_cons (xk_aload_n hc xd_168_52 rfl) <|
    xl_cons (xk_iload_n hc xd_168_53 rfl) <|
    xl_cons (xk_callV (Y := xm_y142) ho rfl (by decide) ⟨by decide, by decide⟩ xl_5 hc xd_168_54 rfl (b' := 1) rfl xm_nd142 (T := xm_T1) (N := 3) rfl xl_536 xl_486 xl_487) <|
    xl_cons (xk_return_ hc xd_168_57) (xl_nil)
theorem xo_168 : ∀ e ∈ xm_i168, xr_sd xm_P 168 e := xo_168_0
set_option maxRecDepth 100000 in
theorem xo_169_0 : ∀ e ∈ ([(0, 1, .aload_n 2, 2, 0, .null, [], none),
  (1, 2, .bipush 40, 0, 0, .int 40, [], none),
  (3, 3, .invokevirtual 9, 142, 2, .retAddr 0, [], none),
  (6, 1, .iconst 0, 0, 0, .int 0, [], none),
  (7, 1, .istore_n 3, 3, 0, .null, [], none),
  (8, 1, .iload_n 3, 3, 0, .null, [], none),
  (9, 1, .aload_n 0, 0, 0, .null, [], none),
  (10, 1, .iload_n 1, 1, 0, .null, [], none),
  (11, 3, .invokevirtual 55, 119, 2, .retAddr 0, [], none),
  (14, 3, .if_icmp .ge 45, 59, 0, .null, [], none),
  (17, 1, .iload_n 3, 3, 0, .null, [], none),
  (18, 3, .ifCond .le 9, 27, 0, .null, [], none),
  (21, 1, .aload_n 2, 2, 0, .null, [], none),
  (22, 2, .bipush 44, 0, 0, .int 44, [], none),
  (24, 3, .invokevirtual 9, 142, 2, .retAddr 0, [], none),
  (27, 1, .aload_n 0, 0, 0, .null, [], none),
  (28, 3, .getfield 42, 3, 7, .null, [], none),
  (31, 1, .iload_n 1, 1, 0, .null, [], none),
  (32, 1, .iaload, 0, 0, .null, [], none),
  (33, 1, .iconst 4, 0, 0, .int 4, [], none),
  (34, 3, .if_icmp .ne 9, 43, 0, .null, [], none),
  (37, 1, .aload_n 2, 2, 0, .null, [], none),
  (38, 2, .bipush 35, 0, 0, .int 35, [], none),
  (40, 3, .invokevirtual 9, 142, 2, .retAddr 0, [], none),
  (43, 1, .aload_n 0, 0, 0, .null, [], none),
  (44, 1, .iload_n 1, 1, 0, .null, [], none),
  (45, 1, .iload_n 3, 3, 0, .null, [], none),
  (46, 3, .invokevirtual 59, 120, 3, .retAddr 0, [], none),
  (49, 1, .aload_n 2, 2, 0, .null, [], none),
  (50, 3, .invokestatic 21, 170, 2, .retAddr 2, [], none),
  (53, 3, .iinc 3 1, 3, 0, .int 1, [], none),
  (56, 3, .goto (-48), 8, 0, .null, [], none),
  (59, 1, .aload_n 2, 2, 0, .null, [], none),
  (60, 2, .bipush 41, 0, 0, .int 41, [], none),
  (62, 3, .invokevirtual 9, 142, 2, .retAddr 0, [], none),
  (65, 1, .return_, 0, 0, .null, [], none)] : List xr_E), xr_sd xm_P 169 e := by
  have hc : xp_cd xm_P 169 = prog_10_method_5_code := rfl
  have ho : xp_own xm_P 169 = "ExchangeText$Writer" := rfl
  have hm : xp_ml xm_P 169 = 4 := rfl
  exact xl_cons (xk_aload_n hc xd_169_0 rfl) <|
    xl_cons (xk_bipush hc xd_169_1 (by decide)) <|
    xl_cons (xk_callV (Y := xm_y142) ho rfl (by decide) ⟨by decide, by decide⟩ xl_5 hc xd_169_3 rfl (b' := 1) rfl xm_nd142 (T := xm_T1) (N := 3) rfl xl_536 xl_486 xl_487) <|
    xl_cons (xk_iconst hc xd_169_6 (by decide)) <|
    xl_cons (xk_istore_n hc xd_169_7 hm rfl (by decide)) <|
    xl_cons (xk_iload_n hc xd_169_8 rfl) <|
    xl_cons (xk_aload_n hc xd_169_9 rfl) <|
    xl_cons (xk_iload_n hc xd_169_10 rfl) <|
    xl_cons (xk_callV (Y := xm_y119) ho rfl (by decide) ⟨by decide, by decide⟩ xl_17 hc xd_169_11 rfl (b' := 1) rfl xm_nd119 (T := xm_T3) (N := 11) rfl xl_551 xl_124 xl_125) <|
    xl_cons (xk_if_icmp hc xd_169_14 (by decide)) <|
    xl_cons (xk_iload_n hc xd_169_17 rfl) <|
    xl_cons (xk_ifCond hc xd_169_18 (by decide)) <|
    xl_cons (xk_aload_n hc xd_169_21 rfl) <|
    xl_cons (xk_bipush hc xd_169_22 (by decide)) <|
    xl_cons (xk_callV (Y := xm_y142) ho rfl (by decide) ⟨by decide, by decide⟩ xl_5 hc xd_169_24 rfl (b' := 1) rfl xm_nd142 (T := xm_T1) (N := 3) rfl xl_536 xl_486 xl_487) <|
    xl_cons (xk_aload_n hc xd_169_27 rfl) <|
    xl_cons (xk_getfield (C := xm_C3) (T := xm_T3) (N := 11) hc xd_169_28 ho rfl (by decide) xm_u3 xl_545) <|
    xl_cons (xk_iload_n hc xd_169_31 rfl) <|
    xl_cons (xk_iaload hc xd_169_32) <|
    xl_cons (xk_iconst hc xd_169_33 (by decide)) <|
    xl_cons (xk_if_icmp hc xd_169_34 (by decide)) <|
    xl_cons (xk_aload_n hc xd_169_37 rfl) <|
    xl_cons (xk_bipush hc xd_169_38 (by decide)) <|
    xl_cons (xk_callV (Y := xm_y142) ho rfl (by decide) ⟨by decide, by decide⟩ xl_5 hc xd_169_40 rfl (b' := 1) rfl xm_nd142 (T := xm_T1) (N := 3) rfl xl_536 xl_486 xl_487) <|
    xl_cons (xk_aload_n hc xd_169_43 rfl) <|
    xl_cons (xk_iload_n hc xd_169_44 rfl) <|
    xl_cons (xk_iload_n hc xd_169_45 rfl) <|
    xl_cons (xk_callV (Y := xm_y120) ho rfl (by decide) ⟨by decide, by decide⟩ xl_17 hc xd_169_46 rfl (b' := 2) rfl xm_nd120 (T := xm_T3) (N := 11) rfl xl_552 xl_127 xl_128) <|
    xl_cons (xk_aload_n hc xd_169_49 rfl) <|
    xl_cons (xk_callS (Y := xm_y170) ho rfl (by decide) ⟨by decide, by decide⟩ xl_97 hc xd_169_50 rfl xm_nd170 xl_538 xl_539) <|
    xl_cons (xk_iinc hc xd_169_53 hm rfl (by decide) (by decide)) <|
    xl_cons (xk_goto hc xd_169_56 (by decide)) <|
    xl_cons (xk_aload_n hc xd_169_59 rfl) <|
    xl_cons (xk_bipush hc xd_169_60 (by decide)) <|
    xl_cons (xk_callV (Y := xm_y142) ho rfl (by decide) ⟨by decide, by decide⟩ xl_5 hc xd_169_62 rfl (b' := 1) rfl xm_nd142 (T := xm_T1) (N := 3) rfl xl_536 xl_486 xl_487) <|
    xl_cons (xk_return_ hc xd_169_65) (xl_nil)
theorem xo_169 : ∀ e ∈ xm_i169, xr_sd xm_P 169 e := xo_169_0
set_option maxRecDepth 100000 in
theorem xo_170_0 : ∀ e ∈ ([(0, 1, .iload_n 0, 0, 0, .null, [], none),
  (1, 3, .ifCond .ge 9, 10, 0, .null, [], none),
  (4, 1, .aload_n 1, 1, 0, .null, [], none),
  (5, 2, .bipush 45, 0, 0, .int 45, [], none),
  (7, 3, .invokevirtual 9, 142, 2, .retAddr 0, [], none),
  (10, 1, .iload_n 0, 0, 0, .null, [], none),
  (11, 3, .ifCond .ge 8, 19, 0, .null, [], none),
  (14, 1, .iload_n 0, 0, 0, .null, [], none),
  (15, 1, .ineg, 0, 0, .null, [], none),
  (16, 3, .goto 4, 20, 0, .null, [], none),
  (19, 1, .iload_n 0, 0, 0, .null, [], none),
  (20, 1, .istore_n 2, 2, 0, .null, [], none),
  (21, 1, .iconst 0, 0, 0, .int 0, [], none),
  (22, 1, .istore_n 3, 3, 0, .null, [], none),
  (23, 2, .ldc 63, 0, 0, .int 100000000, [], none),
  (25, 2, .istore 4, 4, 0, .null, [], none),
  (27, 2, .iload 4, 4, 0, .null, [], none),
  (29, 3, .ifCond .le 57, 86, 0, .null, [], none),
  (32, 1, .iload_n 2, 2, 0, .null, [], none),
  (33, 2, .iload 4, 4, 0, .null, [], none),
  (35, 1, .idiv, 0, 0, .null, [], none),
  (36, 2, .bipush 10, 0, 0, .int 10, [], none),
  (38, 1, .irem, 0, 0, .null, [], none),
  (39, 2, .istore 5, 5, 0, .null, [], none),
  (41, 1, .iload_n 3, 3, 0, .null, [], none),
  (42, 3, .ifCond .ne 14, 56, 0, .null, [], none),
  (45, 2, .iload 5, 5, 0, .null, [], none),
  (47, 3, .ifCond .ne 9, 56, 0, .null, [], none),
  (50, 2, .iload 4, 4, 0, .null, [], none),
  (52, 1, .iconst 1, 0, 0, .int 1, [], none),
  (53, 3, .if_icmp .ne 7, 60, 0, .null, [], none),
  (56, 1, .iconst 1, 0, 0, .int 1, [], none),
  (57, 3, .goto 4, 61, 0, .null, [], none),
  (60, 1, .iconst 0, 0, 0, .int 0, [], none),
  (61, 1, .istore_n 3, 3, 0, .null, [], none),
  (62, 1, .iload_n 3, 3, 0, .null, [], none),
  (63, 3, .ifCond .eq 13, 76, 0, .null, [], none),
  (66, 1, .aload_n 1, 1, 0, .null, [], none),
  (67, 2, .bipush 48, 0, 0, .int 48, [], none),
  (69, 2, .iload 5, 5, 0, .null, [], none)] : List xr_E), xr_sd xm_P 170 e := by
  have hc : xp_cd xm_P 170 = prog_10_method_6_code := rfl
  have ho : xp_own xm_P 170 = "ExchangeText$Writer" := rfl
  have hm : xp_ml xm_P 170 = 6 := rfl
  exact xl_cons (xk_iload_n hc xd_170_0 rfl) <|
    xl_cons (xk_ifCond hc xd_170_1 (by decide)) <|
    xl_cons (xk_aload_n hc xd_170_4 rfl) <|
    xl_cons (xk_bipush hc xd_170_5 (by decide)) <|
    xl_cons (xk_callV (Y := xm_y142) ho rfl (by decide) ⟨by decide, by decide⟩ xl_5 hc xd_170_7 rfl (b' := 1) rfl xm_nd142 (T := xm_T1) (N := 3) rfl xl_536 xl_486 xl_487) <|
    xl_cons (xk_iload_n hc xd_170_10 rfl) <|
    xl_cons (xk_ifCond hc xd_170_11 (by decide)) <|
    xl_cons (xk_iload_n hc xd_170_14 rfl) <|
    xl_cons (xk_ineg hc xd_170_15) <|
    xl_cons (xk_goto hc xd_170_16 (by decide)) <|
    xl_cons (xk_iload_n hc xd_170_19 rfl) <|
    xl_cons (xk_istore_n hc xd_170_20 hm rfl (by decide)) <|
    xl_cons (xk_iconst hc xd_170_21 (by decide)) <|
    xl_cons (xk_istore_n hc xd_170_22 hm rfl (by decide)) <|
    xl_cons (xk_ldc hc xd_170_23 ho rfl xl_553) <|
    xl_cons (xk_istore hc xd_170_25 hm rfl (by decide)) <|
    xl_cons (xk_iload hc xd_170_27 rfl) <|
    xl_cons (xk_ifCond hc xd_170_29 (by decide)) <|
    xl_cons (xk_iload_n hc xd_170_32 rfl) <|
    xl_cons (xk_iload hc xd_170_33 rfl) <|
    xl_cons (xk_idiv hc xd_170_35) <|
    xl_cons (xk_bipush hc xd_170_36 (by decide)) <|
    xl_cons (xk_irem hc xd_170_38) <|
    xl_cons (xk_istore hc xd_170_39 hm rfl (by decide)) <|
    xl_cons (xk_iload_n hc xd_170_41 rfl) <|
    xl_cons (xk_ifCond hc xd_170_42 (by decide)) <|
    xl_cons (xk_iload hc xd_170_45 rfl) <|
    xl_cons (xk_ifCond hc xd_170_47 (by decide)) <|
    xl_cons (xk_iload hc xd_170_50 rfl) <|
    xl_cons (xk_iconst hc xd_170_52 (by decide)) <|
    xl_cons (xk_if_icmp hc xd_170_53 (by decide)) <|
    xl_cons (xk_iconst hc xd_170_56 (by decide)) <|
    xl_cons (xk_goto hc xd_170_57 (by decide)) <|
    xl_cons (xk_iconst hc xd_170_60 (by decide)) <|
    xl_cons (xk_istore_n hc xd_170_61 hm rfl (by decide)) <|
    xl_cons (xk_iload_n hc xd_170_62 rfl) <|
    xl_cons (xk_ifCond hc xd_170_63 (by decide)) <|
    xl_cons (xk_aload_n hc xd_170_66 rfl) <|
    xl_cons (xk_bipush hc xd_170_67 (by decide)) <|
    xl_cons (xk_iload hc xd_170_69 rfl) (xl_nil)
set_option maxRecDepth 100000 in
theorem xo_170_1 : ∀ e ∈ ([(71, 1, .iadd, 0, 0, .null, [], none),
  (72, 1, .i2c, 0, 0, .null, [], none),
  (73, 3, .invokevirtual 9, 142, 2, .retAddr 0, [], none),
  (76, 2, .iload 4, 4, 0, .null, [], none),
  (78, 2, .bipush 10, 0, 0, .int 10, [], none),
  (80, 1, .idiv, 0, 0, .null, [], none),
  (81, 2, .istore 4, 4, 0, .null, [], none),
  (83, 3, .goto (-56), 27, 0, .null, [], none),
  (86, 1, .return_, 0, 0, .null, [], none)] : List xr_E), xr_sd xm_P 170 e := by
  have hc : xp_cd xm_P 170 = prog_10_method_6_code := rfl
  have ho : xp_own xm_P 170 = "ExchangeText$Writer" := rfl
  have hm : xp_ml xm_P 170 = 6 := rfl
  exact xl_cons (xk_iadd hc xd_170_71) <|
    xl_cons (xk_i2c hc xd_170_72) <|
    xl_cons (xk_callV (Y := xm_y142) ho rfl (by decide) ⟨by decide, by decide⟩ xl_5 hc xd_170_73 rfl (b' := 1) rfl xm_nd142 (T := xm_T1) (N := 3) rfl xl_536 xl_486 xl_487) <|
    xl_cons (xk_iload hc xd_170_76 rfl) <|
    xl_cons (xk_bipush hc xd_170_78 (by decide)) <|
    xl_cons (xk_idiv hc xd_170_80) <|
    xl_cons (xk_istore hc xd_170_81 hm rfl (by decide)) <|
    xl_cons (xk_goto hc xd_170_83 (by decide)) <|
    xl_cons (xk_return_ hc xd_170_86) (xl_nil)
theorem xo_170 : ∀ e ∈ xm_i170, xr_sd xm_P 170 e := xl_app xo_170_0 (xo_170_1)
set_option maxRecDepth 100000 in
theorem xo_171_0 : ∀ e ∈ ([(0, 1, .aload_n 3, 3, 0, .null, [], none),
  (1, 1, .iconst 0, 0, 0, .int 0, [], none),
  (2, 1, .aload_n 0, 0, 0, .null, [], none),
  (3, 1, .lload_n 1, 1, 0, .null, [], none),
  (4, 3, .invokevirtual 7, 1, 2, .retAddr 0, [], none),
  (7, 1, .i2l, 0, 0, .null, [], none),
  (8, 1, .lastore, 0, 0, .null, [], none),
  (9, 3, .goto 11, 20, 0, .null, [], none),
  (14, 1, .iconst 1, 0, 0, .int 1, [], none),
  (15, 1, .ireturn, 0, 0, .null, [], none),
  (18, 1, .iconst 2, 0, 0, .int 2, [], none),
  (19, 1, .ireturn, 0, 0, .null, [], none),
  (20, 1, .iconst 0, 0, 0, .int 0, [], none),
  (21, 1, .ireturn, 0, 0, .null, [], none)] : List xr_E), xr_sd xm_P 171 e := by
  have hc : xp_cd xm_P 171 = method_3_code := rfl
  have ho : xp_own xm_P 171 = "ExchangeTextLaw" := rfl
  have hm : xp_ml xm_P 171 = 5 := rfl
  exact xl_cons (xk_aload_n hc xd_171_0 rfl) <|
    xl_cons (xk_iconst hc xd_171_1 (by decide)) <|
    xl_cons (xk_aload_n hc xd_171_2 rfl) <|
    xl_cons (xk_lload_n hc xd_171_3 rfl) <|
    xl_cons (xk_callV (Y := xm_y1) ho rfl (by decide) ⟨by decide, by decide⟩ xl_52 hc xd_171_4 rfl (b' := 1) rfl xm_nd1 (T := xm_T0) (N := 11) rfl xl_554 xl_555 xl_556) <|
    xl_cons (xk_i2l hc xd_171_7) <|
    xl_cons (xk_lastore hc xd_171_8) <|
    xl_cons (xk_goto hc xd_171_9 (by decide)) <|
    xl_cons (xk_iconst hc xd_171_14 (by decide)) <|
    xl_cons (xk_ireturn hc xd_171_15) <|
    xl_cons (xk_iconst hc xd_171_18 (by decide)) <|
    xl_cons (xk_ireturn hc xd_171_19) <|
    xl_cons (xk_iconst hc xd_171_20 (by decide)) <|
    xl_cons (xk_ireturn hc xd_171_21) (xl_nil)
theorem xo_171 : ∀ e ∈ xm_i171, xr_sd xm_P 171 e := xo_171_0
set_option maxRecDepth 100000 in
theorem xo_172_0 : ∀ e ∈ ([(0, 1, .aload_n 2, 2, 0, .null, [], none),
  (1, 1, .iconst 0, 0, 0, .int 0, [], none),
  (2, 1, .aload_n 0, 0, 0, .null, [], none),
  (3, 1, .iload_n 1, 1, 0, .null, [], none),
  (4, 3, .invokevirtual 17, 2, 2, .retAddr 0, [], none),
  (7, 1, .i2l, 0, 0, .null, [], none),
  (8, 1, .lastore, 0, 0, .null, [], none),
  (9, 3, .goto 6, 15, 0, .null, [], none),
  (13, 1, .iconst 1, 0, 0, .int 1, [], none),
  (14, 1, .ireturn, 0, 0, .null, [], none),
  (15, 1, .iconst 0, 0, 0, .int 0, [], none),
  (16, 1, .ireturn, 0, 0, .null, [], none)] : List xr_E), xr_sd xm_P 172 e := by
  have hc : xp_cd xm_P 172 = method_4_code := rfl
  have ho : xp_own xm_P 172 = "ExchangeTextLaw" := rfl
  have hm : xp_ml xm_P 172 = 4 := rfl
  exact xl_cons (xk_aload_n hc xd_172_0 rfl) <|
    xl_cons (xk_iconst hc xd_172_1 (by decide)) <|
    xl_cons (xk_aload_n hc xd_172_2 rfl) <|
    xl_cons (xk_iload_n hc xd_172_3 rfl) <|
    xl_cons (xk_callV (Y := xm_y2) ho rfl (by decide) ⟨by decide, by decide⟩ xl_52 hc xd_172_4 rfl (b' := 1) rfl xm_nd2 (T := xm_T0) (N := 11) rfl xl_557 xl_558 xl_559) <|
    xl_cons (xk_i2l hc xd_172_7) <|
    xl_cons (xk_lastore hc xd_172_8) <|
    xl_cons (xk_goto hc xd_172_9 (by decide)) <|
    xl_cons (xk_iconst hc xd_172_13 (by decide)) <|
    xl_cons (xk_ireturn hc xd_172_14) <|
    xl_cons (xk_iconst hc xd_172_15 (by decide)) <|
    xl_cons (xk_ireturn hc xd_172_16) (xl_nil)
theorem xo_172 : ∀ e ∈ xm_i172, xr_sd xm_P 172 e := xo_172_0
set_option maxRecDepth 100000 in
theorem xo_173_0 : ∀ e ∈ ([(0, 1, .aload_n 2, 2, 0, .null, [], none),
  (1, 1, .iconst 0, 0, 0, .int 0, [], none),
  (2, 1, .aload_n 0, 0, 0, .null, [], none),
  (3, 1, .iload_n 1, 1, 0, .null, [], none),
  (4, 3, .invokevirtual 21, 3, 2, .retAddr 0, [], none),
  (7, 1, .i2l, 0, 0, .null, [], none),
  (8, 1, .lastore, 0, 0, .null, [], none),
  (9, 3, .goto 6, 15, 0, .null, [], none),
  (13, 1, .iconst 1, 0, 0, .int 1, [], none),
  (14, 1, .ireturn, 0, 0, .null, [], none),
  (15, 1, .iconst 0, 0, 0, .int 0, [], none),
  (16, 1, .ireturn, 0, 0, .null, [], none)] : List xr_E), xr_sd xm_P 173 e := by
  have hc : xp_cd xm_P 173 = method_5_code := rfl
  have ho : xp_own xm_P 173 = "ExchangeTextLaw" := rfl
  have hm : xp_ml xm_P 173 = 4 := rfl
  exact xl_cons (xk_aload_n hc xd_173_0 rfl) <|
    xl_cons (xk_iconst hc xd_173_1 (by decide)) <|
    xl_cons (xk_aload_n hc xd_173_2 rfl) <|
    xl_cons (xk_iload_n hc xd_173_3 rfl) <|
    xl_cons (xk_callV (Y := xm_y3) ho rfl (by decide) ⟨by decide, by decide⟩ xl_52 hc xd_173_4 rfl (b' := 1) rfl xm_nd3 (T := xm_T0) (N := 11) rfl xl_560 xl_561 xl_562) <|
    xl_cons (xk_i2l hc xd_173_7) <|
    xl_cons (xk_lastore hc xd_173_8) <|
    xl_cons (xk_goto hc xd_173_9 (by decide)) <|
    xl_cons (xk_iconst hc xd_173_13 (by decide)) <|
    xl_cons (xk_ireturn hc xd_173_14) <|
    xl_cons (xk_iconst hc xd_173_15 (by decide)) <|
    xl_cons (xk_ireturn hc xd_173_16) (xl_nil)
theorem xo_173 : ∀ e ∈ xm_i173, xr_sd xm_P 173 e := xo_173_0
set_option maxRecDepth 100000 in
theorem xo_174_0 : ∀ e ∈ ([(0, 1, .aload_n 2, 2, 0, .null, [], none),
  (1, 1, .iconst 0, 0, 0, .int 0, [], none),
  (2, 1, .aload_n 0, 0, 0, .null, [], none),
  (3, 1, .iload_n 1, 1, 0, .null, [], none),
  (4, 3, .invokevirtual 24, 8, 2, .retAddr 0, [], none),
  (7, 1, .i2l, 0, 0, .null, [], none),
  (8, 1, .lastore, 0, 0, .null, [], none),
  (9, 3, .goto 6, 15, 0, .null, [], none),
  (13, 1, .iconst 1, 0, 0, .int 1, [], none),
  (14, 1, .ireturn, 0, 0, .null, [], none),
  (15, 1, .iconst 0, 0, 0, .int 0, [], none),
  (16, 1, .ireturn, 0, 0, .null, [], none)] : List xr_E), xr_sd xm_P 174 e := by
  have hc : xp_cd xm_P 174 = method_6_code := rfl
  have ho : xp_own xm_P 174 = "ExchangeTextLaw" := rfl
  have hm : xp_ml xm_P 174 = 4 := rfl
  exact xl_cons (xk_aload_n hc xd_174_0 rfl) <|
    xl_cons (xk_iconst hc xd_174_1 (by decide)) <|
    xl_cons (xk_aload_n hc xd_174_2 rfl) <|
    xl_cons (xk_iload_n hc xd_174_3 rfl) <|
    xl_cons (xk_callV (Y := xm_y8) ho rfl (by decide) ⟨by decide, by decide⟩ xl_52 hc xd_174_4 rfl (b' := 1) rfl xm_nd8 (T := xm_T0) (N := 11) rfl xl_563 xl_564 xl_565) <|
    xl_cons (xk_i2l hc xd_174_7) <|
    xl_cons (xk_lastore hc xd_174_8) <|
    xl_cons (xk_goto hc xd_174_9 (by decide)) <|
    xl_cons (xk_iconst hc xd_174_13 (by decide)) <|
    xl_cons (xk_ireturn hc xd_174_14) <|
    xl_cons (xk_iconst hc xd_174_15 (by decide)) <|
    xl_cons (xk_ireturn hc xd_174_16) (xl_nil)
theorem xo_174 : ∀ e ∈ xm_i174, xr_sd xm_P 174 e := xo_174_0
set_option maxRecDepth 100000 in
theorem xo_175_0 : ∀ e ∈ ([(0, 1, .aload_n 3, 3, 0, .null, [], none),
  (1, 1, .iconst 0, 0, 0, .int 0, [], none),
  (2, 1, .aload_n 0, 0, 0, .null, [], none),
  (3, 1, .iload_n 1, 1, 0, .null, [], none),
  (4, 1, .iload_n 2, 2, 0, .null, [], none),
  (5, 3, .invokevirtual 27, 9, 3, .retAddr 0, [], none),
  (8, 1, .i2l, 0, 0, .null, [], none),
  (9, 1, .lastore, 0, 0, .null, [], none),
  (10, 3, .goto 7, 17, 0, .null, [], none),
  (15, 1, .iconst 1, 0, 0, .int 1, [], none),
  (16, 1, .ireturn, 0, 0, .null, [], none),
  (17, 1, .iconst 0, 0, 0, .int 0, [], none),
  (18, 1, .ireturn, 0, 0, .null, [], none)] : List xr_E), xr_sd xm_P 175 e := by
  have hc : xp_cd xm_P 175 = method_7_code := rfl
  have ho : xp_own xm_P 175 = "ExchangeTextLaw" := rfl
  have hm : xp_ml xm_P 175 = 5 := rfl
  exact xl_cons (xk_aload_n hc xd_175_0 rfl) <|
    xl_cons (xk_iconst hc xd_175_1 (by decide)) <|
    xl_cons (xk_aload_n hc xd_175_2 rfl) <|
    xl_cons (xk_iload_n hc xd_175_3 rfl) <|
    xl_cons (xk_iload_n hc xd_175_4 rfl) <|
    xl_cons (xk_callV (Y := xm_y9) ho rfl (by decide) ⟨by decide, by decide⟩ xl_52 hc xd_175_5 rfl (b' := 2) rfl xm_nd9 (T := xm_T0) (N := 11) rfl xl_566 xl_567 xl_568) <|
    xl_cons (xk_i2l hc xd_175_8) <|
    xl_cons (xk_lastore hc xd_175_9) <|
    xl_cons (xk_goto hc xd_175_10 (by decide)) <|
    xl_cons (xk_iconst hc xd_175_15 (by decide)) <|
    xl_cons (xk_ireturn hc xd_175_16) <|
    xl_cons (xk_iconst hc xd_175_17 (by decide)) <|
    xl_cons (xk_ireturn hc xd_175_18) (xl_nil)
theorem xo_175 : ∀ e ∈ xm_i175, xr_sd xm_P 175 e := xo_175_0
set_option maxRecDepth 100000 in
theorem xo_176_0 : ∀ e ∈ ([(0, 2, .aload 4, 4, 0, .null, [], none),
  (2, 1, .iconst 0, 0, 0, .int 0, [], none),
  (3, 1, .aload_n 0, 0, 0, .null, [], none),
  (4, 1, .iload_n 1, 1, 0, .null, [], none),
  (5, 1, .iload_n 2, 2, 0, .null, [], none),
  (6, 1, .iload_n 3, 3, 0, .null, [], none),
  (7, 3, .invokevirtual 31, 10, 4, .retAddr 0, [], none),
  (10, 1, .i2l, 0, 0, .null, [], none),
  (11, 1, .lastore, 0, 0, .null, [], none),
  (12, 3, .goto 7, 19, 0, .null, [], none),
  (17, 1, .iconst 1, 0, 0, .int 1, [], none),
  (18, 1, .ireturn, 0, 0, .null, [], none),
  (19, 1, .iconst 0, 0, 0, .int 0, [], none),
  (20, 1, .ireturn, 0, 0, .null, [], none)] : List xr_E), xr_sd xm_P 176 e := by
  have hc : xp_cd xm_P 176 = method_8_code := rfl
  have ho : xp_own xm_P 176 = "ExchangeTextLaw" := rfl
  have hm : xp_ml xm_P 176 = 6 := rfl
  exact xl_cons (xk_aload hc xd_176_0 rfl) <|
    xl_cons (xk_iconst hc xd_176_2 (by decide)) <|
    xl_cons (xk_aload_n hc xd_176_3 rfl) <|
    xl_cons (xk_iload_n hc xd_176_4 rfl) <|
    xl_cons (xk_iload_n hc xd_176_5 rfl) <|
    xl_cons (xk_iload_n hc xd_176_6 rfl) <|
    xl_cons (xk_callV (Y := xm_y10) ho rfl (by decide) ⟨by decide, by decide⟩ xl_52 hc xd_176_7 rfl (b' := 3) rfl xm_nd10 (T := xm_T0) (N := 11) rfl xl_569 xl_570 xl_571) <|
    xl_cons (xk_i2l hc xd_176_10) <|
    xl_cons (xk_lastore hc xd_176_11) <|
    xl_cons (xk_goto hc xd_176_12 (by decide)) <|
    xl_cons (xk_iconst hc xd_176_17 (by decide)) <|
    xl_cons (xk_ireturn hc xd_176_18) <|
    xl_cons (xk_iconst hc xd_176_19 (by decide)) <|
    xl_cons (xk_ireturn hc xd_176_20) (xl_nil)
theorem xo_176 : ∀ e ∈ xm_i176, xr_sd xm_P 176 e := xo_176_0
set_option maxRecDepth 100000 in
theorem xo_177_0 : ∀ e ∈ ([(0, 2, .aload 4, 4, 0, .null, [], none),
  (2, 1, .iconst 0, 0, 0, .int 0, [], none),
  (3, 1, .aload_n 0, 0, 0, .null, [], none),
  (4, 1, .iload_n 1, 1, 0, .null, [], none),
  (5, 1, .iload_n 2, 2, 0, .null, [], none),
  (6, 1, .iload_n 3, 3, 0, .null, [], none),
  (7, 3, .invokevirtual 35, 11, 4, .retAddr 0, [], none),
  (10, 1, .i2l, 0, 0, .null, [], none),
  (11, 1, .lastore, 0, 0, .null, [], none),
  (12, 3, .goto 7, 19, 0, .null, [], none),
  (17, 1, .iconst 1, 0, 0, .int 1, [], none),
  (18, 1, .ireturn, 0, 0, .null, [], none),
  (19, 1, .iconst 0, 0, 0, .int 0, [], none),
  (20, 1, .ireturn, 0, 0, .null, [], none)] : List xr_E), xr_sd xm_P 177 e := by
  have hc : xp_cd xm_P 177 = method_9_code := rfl
  have ho : xp_own xm_P 177 = "ExchangeTextLaw" := rfl
  have hm : xp_ml xm_P 177 = 6 := rfl
  exact xl_cons (xk_aload hc xd_177_0 rfl) <|
    xl_cons (xk_iconst hc xd_177_2 (by decide)) <|
    xl_cons (xk_aload_n hc xd_177_3 rfl) <|
    xl_cons (xk_iload_n hc xd_177_4 rfl) <|
    xl_cons (xk_iload_n hc xd_177_5 rfl) <|
    xl_cons (xk_iload_n hc xd_177_6 rfl) <|
    xl_cons (xk_callV (Y := xm_y11) ho rfl (by decide) ⟨by decide, by decide⟩ xl_52 hc xd_177_7 rfl (b' := 3) rfl xm_nd11 (T := xm_T0) (N := 11) rfl xl_572 xl_573 xl_574) <|
    xl_cons (xk_i2l hc xd_177_10) <|
    xl_cons (xk_lastore hc xd_177_11) <|
    xl_cons (xk_goto hc xd_177_12 (by decide)) <|
    xl_cons (xk_iconst hc xd_177_17 (by decide)) <|
    xl_cons (xk_ireturn hc xd_177_18) <|
    xl_cons (xk_iconst hc xd_177_19 (by decide)) <|
    xl_cons (xk_ireturn hc xd_177_20) (xl_nil)
theorem xo_177 : ∀ e ∈ xm_i177, xr_sd xm_P 177 e := xo_177_0
set_option maxRecDepth 100000 in
theorem xo_178_0 : ∀ e ∈ ([(0, 2, .aload 4, 4, 0, .null, [], none),
  (2, 1, .iconst 0, 0, 0, .int 0, [], none),
  (3, 1, .aload_n 0, 0, 0, .null, [], none),
  (4, 1, .iload_n 1, 1, 0, .null, [], none),
  (5, 1, .iload_n 2, 2, 0, .null, [], none),
  (6, 1, .iload_n 3, 3, 0, .null, [], none),
  (7, 3, .invokevirtual 38, 12, 4, .retAddr 0, [], none),
  (10, 1, .i2l, 0, 0, .null, [], none),
  (11, 1, .lastore, 0, 0, .null, [], none),
  (12, 3, .goto 7, 19, 0, .null, [], none),
  (17, 1, .iconst 1, 0, 0, .int 1, [], none),
  (18, 1, .ireturn, 0, 0, .null, [], none),
  (19, 1, .iconst 0, 0, 0, .int 0, [], none),
  (20, 1, .ireturn, 0, 0, .null, [], none)] : List xr_E), xr_sd xm_P 178 e := by
  have hc : xp_cd xm_P 178 = method_10_code := rfl
  have ho : xp_own xm_P 178 = "ExchangeTextLaw" := rfl
  have hm : xp_ml xm_P 178 = 6 := rfl
  exact xl_cons (xk_aload hc xd_178_0 rfl) <|
    xl_cons (xk_iconst hc xd_178_2 (by decide)) <|
    xl_cons (xk_aload_n hc xd_178_3 rfl) <|
    xl_cons (xk_iload_n hc xd_178_4 rfl) <|
    xl_cons (xk_iload_n hc xd_178_5 rfl) <|
    xl_cons (xk_iload_n hc xd_178_6 rfl) <|
    xl_cons (xk_callV (Y := xm_y12) ho rfl (by decide) ⟨by decide, by decide⟩ xl_52 hc xd_178_7 rfl (b' := 3) rfl xm_nd12 (T := xm_T0) (N := 11) rfl xl_575 xl_576 xl_577) <|
    xl_cons (xk_i2l hc xd_178_10) <|
    xl_cons (xk_lastore hc xd_178_11) <|
    xl_cons (xk_goto hc xd_178_12 (by decide)) <|
    xl_cons (xk_iconst hc xd_178_17 (by decide)) <|
    xl_cons (xk_ireturn hc xd_178_18) <|
    xl_cons (xk_iconst hc xd_178_19 (by decide)) <|
    xl_cons (xk_ireturn hc xd_178_20) (xl_nil)
theorem xo_178 : ∀ e ∈ xm_i178, xr_sd xm_P 178 e := xo_178_0
set_option maxRecDepth 100000 in
theorem xo_179_0 : ∀ e ∈ ([(0, 1, .aload_n 3, 3, 0, .null, [], none),
  (1, 1, .iconst 0, 0, 0, .int 0, [], none),
  (2, 1, .aload_n 0, 0, 0, .null, [], none),
  (3, 1, .iload_n 1, 1, 0, .null, [], none),
  (4, 1, .iload_n 2, 2, 0, .null, [], none),
  (5, 3, .invokevirtual 41, 13, 3, .retAddr 0, [], none),
  (8, 1, .i2l, 0, 0, .null, [], none),
  (9, 1, .lastore, 0, 0, .null, [], none),
  (10, 3, .goto 7, 17, 0, .null, [], none),
  (15, 1, .iconst 1, 0, 0, .int 1, [], none),
  (16, 1, .ireturn, 0, 0, .null, [], none),
  (17, 1, .iconst 0, 0, 0, .int 0, [], none),
  (18, 1, .ireturn, 0, 0, .null, [], none)] : List xr_E), xr_sd xm_P 179 e := by
  have hc : xp_cd xm_P 179 = method_11_code := rfl
  have ho : xp_own xm_P 179 = "ExchangeTextLaw" := rfl
  have hm : xp_ml xm_P 179 = 5 := rfl
  exact xl_cons (xk_aload_n hc xd_179_0 rfl) <|
    xl_cons (xk_iconst hc xd_179_1 (by decide)) <|
    xl_cons (xk_aload_n hc xd_179_2 rfl) <|
    xl_cons (xk_iload_n hc xd_179_3 rfl) <|
    xl_cons (xk_iload_n hc xd_179_4 rfl) <|
    xl_cons (xk_callV (Y := xm_y13) ho rfl (by decide) ⟨by decide, by decide⟩ xl_52 hc xd_179_5 rfl (b' := 2) rfl xm_nd13 (T := xm_T0) (N := 11) rfl xl_578 xl_579 xl_580) <|
    xl_cons (xk_i2l hc xd_179_8) <|
    xl_cons (xk_lastore hc xd_179_9) <|
    xl_cons (xk_goto hc xd_179_10 (by decide)) <|
    xl_cons (xk_iconst hc xd_179_15 (by decide)) <|
    xl_cons (xk_ireturn hc xd_179_16) <|
    xl_cons (xk_iconst hc xd_179_17 (by decide)) <|
    xl_cons (xk_ireturn hc xd_179_18) (xl_nil)
theorem xo_179 : ∀ e ∈ xm_i179, xr_sd xm_P 179 e := xo_179_0
set_option maxRecDepth 100000 in
theorem xo_180_0 : ∀ e ∈ ([(0, 1, .aload_n 3, 3, 0, .null, [], none),
  (1, 1, .iconst 0, 0, 0, .int 0, [], none),
  (2, 1, .aload_n 0, 0, 0, .null, [], none),
  (3, 1, .iload_n 1, 1, 0, .null, [], none),
  (4, 1, .iload_n 2, 2, 0, .null, [], none),
  (5, 3, .invokevirtual 44, 14, 3, .retAddr 0, [], none),
  (8, 1, .i2l, 0, 0, .null, [], none),
  (9, 1, .lastore, 0, 0, .null, [], none),
  (10, 3, .goto 7, 17, 0, .null, [], none),
  (15, 1, .iconst 1, 0, 0, .int 1, [], none),
  (16, 1, .ireturn, 0, 0, .null, [], none),
  (17, 1, .iconst 0, 0, 0, .int 0, [], none),
  (18, 1, .ireturn, 0, 0, .null, [], none)] : List xr_E), xr_sd xm_P 180 e := by
  have hc : xp_cd xm_P 180 = method_12_code := rfl
  have ho : xp_own xm_P 180 = "ExchangeTextLaw" := rfl
  have hm : xp_ml xm_P 180 = 5 := rfl
  exact xl_cons (xk_aload_n hc xd_180_0 rfl) <|
    xl_cons (xk_iconst hc xd_180_1 (by decide)) <|
    xl_cons (xk_aload_n hc xd_180_2 rfl) <|
    xl_cons (xk_iload_n hc xd_180_3 rfl) <|
    xl_cons (xk_iload_n hc xd_180_4 rfl) <|
    xl_cons (xk_callV (Y := xm_y14) ho rfl (by decide) ⟨by decide, by decide⟩ xl_52 hc xd_180_5 rfl (b' := 2) rfl xm_nd14 (T := xm_T0) (N := 11) rfl xl_581 xl_582 xl_583) <|
    xl_cons (xk_i2l hc xd_180_8) <|
    xl_cons (xk_lastore hc xd_180_9) <|
    xl_cons (xk_goto hc xd_180_10 (by decide)) <|
    xl_cons (xk_iconst hc xd_180_15 (by decide)) <|
    xl_cons (xk_ireturn hc xd_180_16) <|
    xl_cons (xk_iconst hc xd_180_17 (by decide)) <|
    xl_cons (xk_ireturn hc xd_180_18) (xl_nil)
theorem xo_180 : ∀ e ∈ xm_i180, xr_sd xm_P 180 e := xo_180_0
set_option maxRecDepth 100000 in
theorem xo_181_0 : ∀ e ∈ ([(0, 1, .aload_n 2, 2, 0, .null, [], none),
  (1, 1, .iconst 0, 0, 0, .int 0, [], none),
  (2, 1, .aload_n 0, 0, 0, .null, [], none),
  (3, 1, .iload_n 1, 1, 0, .null, [], none),
  (4, 3, .invokevirtual 47, 15, 2, .retAddr 0, [], none),
  (7, 1, .i2l, 0, 0, .null, [], none),
  (8, 1, .lastore, 0, 0, .null, [], none),
  (9, 3, .goto 6, 15, 0, .null, [], none),
  (13, 1, .iconst 1, 0, 0, .int 1, [], none),
  (14, 1, .ireturn, 0, 0, .null, [], none),
  (15, 1, .iconst 0, 0, 0, .int 0, [], none),
  (16, 1, .ireturn, 0, 0, .null, [], none)] : List xr_E), xr_sd xm_P 181 e := by
  have hc : xp_cd xm_P 181 = method_13_code := rfl
  have ho : xp_own xm_P 181 = "ExchangeTextLaw" := rfl
  have hm : xp_ml xm_P 181 = 4 := rfl
  exact xl_cons (xk_aload_n hc xd_181_0 rfl) <|
    xl_cons (xk_iconst hc xd_181_1 (by decide)) <|
    xl_cons (xk_aload_n hc xd_181_2 rfl) <|
    xl_cons (xk_iload_n hc xd_181_3 rfl) <|
    xl_cons (xk_callV (Y := xm_y15) ho rfl (by decide) ⟨by decide, by decide⟩ xl_52 hc xd_181_4 rfl (b' := 1) rfl xm_nd15 (T := xm_T0) (N := 11) rfl xl_584 xl_585 xl_586) <|
    xl_cons (xk_i2l hc xd_181_7) <|
    xl_cons (xk_lastore hc xd_181_8) <|
    xl_cons (xk_goto hc xd_181_9 (by decide)) <|
    xl_cons (xk_iconst hc xd_181_13 (by decide)) <|
    xl_cons (xk_ireturn hc xd_181_14) <|
    xl_cons (xk_iconst hc xd_181_15 (by decide)) <|
    xl_cons (xk_ireturn hc xd_181_16) (xl_nil)
theorem xo_181 : ∀ e ∈ xm_i181, xr_sd xm_P 181 e := xo_181_0
set_option maxRecDepth 100000 in
theorem xo_182_0 : ∀ e ∈ ([(0, 1, .aload_n 3, 3, 0, .null, [], none),
  (1, 1, .iconst 0, 0, 0, .int 0, [], none),
  (2, 1, .aload_n 0, 0, 0, .null, [], none),
  (3, 1, .iload_n 1, 1, 0, .null, [], none),
  (4, 1, .iload_n 2, 2, 0, .null, [], none),
  (5, 3, .invokevirtual 50, 16, 3, .retAddr 0, [], none),
  (8, 1, .lastore, 0, 0, .null, [], none),
  (9, 3, .goto 7, 16, 0, .null, [], none),
  (14, 1, .iconst 1, 0, 0, .int 1, [], none),
  (15, 1, .ireturn, 0, 0, .null, [], none),
  (16, 1, .iconst 0, 0, 0, .int 0, [], none),
  (17, 1, .ireturn, 0, 0, .null, [], none)] : List xr_E), xr_sd xm_P 182 e := by
  have hc : xp_cd xm_P 182 = method_14_code := rfl
  have ho : xp_own xm_P 182 = "ExchangeTextLaw" := rfl
  have hm : xp_ml xm_P 182 = 5 := rfl
  exact xl_cons (xk_aload_n hc xd_182_0 rfl) <|
    xl_cons (xk_iconst hc xd_182_1 (by decide)) <|
    xl_cons (xk_aload_n hc xd_182_2 rfl) <|
    xl_cons (xk_iload_n hc xd_182_3 rfl) <|
    xl_cons (xk_iload_n hc xd_182_4 rfl) <|
    xl_cons (xk_callV (Y := xm_y16) ho rfl (by decide) ⟨by decide, by decide⟩ xl_52 hc xd_182_5 rfl (b' := 2) rfl xm_nd16 (T := xm_T0) (N := 11) rfl xl_587 xl_588 xl_589) <|
    xl_cons (xk_lastore hc xd_182_8) <|
    xl_cons (xk_goto hc xd_182_9 (by decide)) <|
    xl_cons (xk_iconst hc xd_182_14 (by decide)) <|
    xl_cons (xk_ireturn hc xd_182_15) <|
    xl_cons (xk_iconst hc xd_182_16 (by decide)) <|
    xl_cons (xk_ireturn hc xd_182_17) (xl_nil)
theorem xo_182 : ∀ e ∈ xm_i182, xr_sd xm_P 182 e := xo_182_0
set_option maxRecDepth 100000 in
theorem xo_183_0 : ∀ e ∈ ([(0, 1, .aload_n 3, 3, 0, .null, [], none),
  (1, 1, .iconst 0, 0, 0, .int 0, [], none),
  (2, 1, .aload_n 0, 0, 0, .null, [], none),
  (3, 1, .iload_n 1, 1, 0, .null, [], none),
  (4, 1, .iload_n 2, 2, 0, .null, [], none),
  (5, 3, .invokevirtual 54, 17, 3, .retAddr 0, [], none),
  (8, 3, .ifCond .eq 7, 15, 0, .null, [], none),
  (11, 1, .lconst 1, 0, 0, .long 1, [], none),
  (12, 3, .goto 4, 16, 0, .null, [], none),
  (15, 1, .lconst 0, 0, 0, .long 0, [], none),
  (16, 1, .lastore, 0, 0, .null, [], none),
  (17, 3, .goto 7, 24, 0, .null, [], none),
  (22, 1, .iconst 1, 0, 0, .int 1, [], none),
  (23, 1, .ireturn, 0, 0, .null, [], none),
  (24, 1, .iconst 0, 0, 0, .int 0, [], none),
  (25, 1, .ireturn, 0, 0, .null, [], none)] : List xr_E), xr_sd xm_P 183 e := by
  have hc : xp_cd xm_P 183 = method_15_code := rfl
  have ho : xp_own xm_P 183 = "ExchangeTextLaw" := rfl
  have hm : xp_ml xm_P 183 = 5 := rfl
  exact xl_cons (xk_aload_n hc xd_183_0 rfl) <|
    xl_cons (xk_iconst hc xd_183_1 (by decide)) <|
    xl_cons (xk_aload_n hc xd_183_2 rfl) <|
    xl_cons (xk_iload_n hc xd_183_3 rfl) <|
    xl_cons (xk_iload_n hc xd_183_4 rfl) <|
    xl_cons (xk_callV (Y := xm_y17) ho rfl (by decide) ⟨by decide, by decide⟩ xl_52 hc xd_183_5 rfl (b' := 2) rfl xm_nd17 (T := xm_T0) (N := 11) rfl xl_590 xl_591 xl_592) <|
    xl_cons (xk_ifCond hc xd_183_8 (by decide)) <|
    xl_cons (xk_lconst hc xd_183_11 rfl) <|
    xl_cons (xk_goto hc xd_183_12 (by decide)) <|
    xl_cons (xk_lconst hc xd_183_15 rfl) <|
    xl_cons (xk_lastore hc xd_183_16) <|
    xl_cons (xk_goto hc xd_183_17 (by decide)) <|
    xl_cons (xk_iconst hc xd_183_22 (by decide)) <|
    xl_cons (xk_ireturn hc xd_183_23) <|
    xl_cons (xk_iconst hc xd_183_24 (by decide)) <|
    xl_cons (xk_ireturn hc xd_183_25) (xl_nil)
theorem xo_183 : ∀ e ∈ xm_i183, xr_sd xm_P 183 e := xo_183_0
set_option maxRecDepth 100000 in
theorem xo_184_0 : ∀ e ∈ ([(0, 1, .aload_n 3, 3, 0, .null, [], none),
  (1, 1, .iconst 0, 0, 0, .int 0, [], none),
  (2, 1, .aload_n 0, 0, 0, .null, [], none),
  (3, 1, .iload_n 1, 1, 0, .null, [], none),
  (4, 1, .iload_n 2, 2, 0, .null, [], none),
  (5, 3, .invokevirtual 58, 19, 3, .retAddr 0, [], none),
  (8, 1, .i2l, 0, 0, .null, [], none),
  (9, 1, .lastore, 0, 0, .null, [], none),
  (10, 3, .goto 7, 17, 0, .null, [], none),
  (15, 1, .iconst 1, 0, 0, .int 1, [], none),
  (16, 1, .ireturn, 0, 0, .null, [], none),
  (17, 1, .iconst 0, 0, 0, .int 0, [], none),
  (18, 1, .ireturn, 0, 0, .null, [], none)] : List xr_E), xr_sd xm_P 184 e := by
  have hc : xp_cd xm_P 184 = method_16_code := rfl
  have ho : xp_own xm_P 184 = "ExchangeTextLaw" := rfl
  have hm : xp_ml xm_P 184 = 5 := rfl
  exact xl_cons (xk_aload_n hc xd_184_0 rfl) <|
    xl_cons (xk_iconst hc xd_184_1 (by decide)) <|
    xl_cons (xk_aload_n hc xd_184_2 rfl) <|
    xl_cons (xk_iload_n hc xd_184_3 rfl) <|
    xl_cons (xk_iload_n hc xd_184_4 rfl) <|
    xl_cons (xk_callV (Y := xm_y19) ho rfl (by decide) ⟨by decide, by decide⟩ xl_52 hc xd_184_5 rfl (b' := 2) rfl xm_nd19 (T := xm_T0) (N := 11) rfl xl_593 xl_594 xl_595) <|
    xl_cons (xk_i2l hc xd_184_8) <|
    xl_cons (xk_lastore hc xd_184_9) <|
    xl_cons (xk_goto hc xd_184_10 (by decide)) <|
    xl_cons (xk_iconst hc xd_184_15 (by decide)) <|
    xl_cons (xk_ireturn hc xd_184_16) <|
    xl_cons (xk_iconst hc xd_184_17 (by decide)) <|
    xl_cons (xk_ireturn hc xd_184_18) (xl_nil)
theorem xo_184 : ∀ e ∈ xm_i184, xr_sd xm_P 184 e := xo_184_0
set_option maxRecDepth 100000 in
theorem xo_185_0 : ∀ e ∈ ([(0, 1, .aload_n 2, 2, 0, .null, [], none),
  (1, 1, .iconst 0, 0, 0, .int 0, [], none),
  (2, 1, .aload_n 0, 0, 0, .null, [], none),
  (3, 1, .iload_n 1, 1, 0, .null, [], none),
  (4, 3, .invokevirtual 61, 20, 2, .retAddr 0, [], none),
  (7, 1, .i2l, 0, 0, .null, [], none),
  (8, 1, .lastore, 0, 0, .null, [], none),
  (9, 3, .goto 6, 15, 0, .null, [], none),
  (13, 1, .iconst 1, 0, 0, .int 1, [], none),
  (14, 1, .ireturn, 0, 0, .null, [], none),
  (15, 1, .iconst 0, 0, 0, .int 0, [], none),
  (16, 1, .ireturn, 0, 0, .null, [], none)] : List xr_E), xr_sd xm_P 185 e := by
  have hc : xp_cd xm_P 185 = method_17_code := rfl
  have ho : xp_own xm_P 185 = "ExchangeTextLaw" := rfl
  have hm : xp_ml xm_P 185 = 4 := rfl
  exact xl_cons (xk_aload_n hc xd_185_0 rfl) <|
    xl_cons (xk_iconst hc xd_185_1 (by decide)) <|
    xl_cons (xk_aload_n hc xd_185_2 rfl) <|
    xl_cons (xk_iload_n hc xd_185_3 rfl) <|
    xl_cons (xk_callV (Y := xm_y20) ho rfl (by decide) ⟨by decide, by decide⟩ xl_52 hc xd_185_4 rfl (b' := 1) rfl xm_nd20 (T := xm_T0) (N := 11) rfl xl_596 xl_597 xl_598) <|
    xl_cons (xk_i2l hc xd_185_7) <|
    xl_cons (xk_lastore hc xd_185_8) <|
    xl_cons (xk_goto hc xd_185_9 (by decide)) <|
    xl_cons (xk_iconst hc xd_185_13 (by decide)) <|
    xl_cons (xk_ireturn hc xd_185_14) <|
    xl_cons (xk_iconst hc xd_185_15 (by decide)) <|
    xl_cons (xk_ireturn hc xd_185_16) (xl_nil)
theorem xo_185 : ∀ e ∈ xm_i185, xr_sd xm_P 185 e := xo_185_0
set_option maxRecDepth 100000 in
theorem xo_186_0 : ∀ e ∈ ([(0, 3, .new 8, 0, 0, .null, [], none),
  (3, 1, .dup, 0, 0, .null, [], none),
  (4, 3, .invokespecial 64, 0, 1, .retAddr 4, [], none),
  (7, 1, .astore_n 1, 1, 0, .null, [], none),
  (8, 3, .new 65, 9, 0, .null, [], none),
  (11, 1, .dup, 0, 0, .null, [], none),
  (12, 3, .invokespecial 67, 30, 1, .retAddr 4, [], none),
  (15, 1, .astore_n 2, 2, 0, .null, [], none),
  (16, 1, .iconst 1, 0, 0, .int 1, [], none),
  (17, 2, .newarray .long, 1, 0, .null, [], none),
  (19, 1, .astore_n 3, 3, 0, .null, [], none),
  (20, 1, .iconst 0, 0, 0, .int 0, [], none),
  (21, 2, .istore 4, 4, 0, .null, [], none),
  (23, 2, .iload 4, 4, 0, .null, [], none),
  (25, 1, .aload_n 0, 0, 0, .null, [], none),
  (26, 1, .arraylength, 0, 0, .null, [], none),
  (27, 1, .iconst 4, 0, 0, .int 4, [], none),
  (28, 1, .isub, 0, 0, .null, [], none),
  (29, 3, .if_icmp .gt 1196, 1225, 0, .null, [], none),
  (32, 1, .aload_n 0, 0, 0, .null, [], none),
  (33, 2, .iload 4, 4, 0, .null, [], none),
  (35, 1, .iaload, 0, 0, .null, [], none),
  (36, 2, .bipush 31, 0, 0, .int 31, [], none),
  (38, 1, .iand, 0, 0, .null, [], none),
  (39, 93, .tableswitch 1180 0 19 #[93, 181, 237, 293, 306, 319, 332, 345, 401, 469, 549, 629, 709, 777, 845, 901, 968, 1043, 1056, 1124], 1219, 0, .null, [(0, 132), (1, 220), (2, 276), (3, 332), (4, 345), (5, 358), (6, 371), (7, 384), (8, 440), (9, 508), (10, 588), (11, 668), (12, 748), (13, 816), (14, 884), (15, 940), (16, 1007), (17, 1082), (18, 1095), (19, 1163)], none),
  (132, 1, .aload_n 1, 1, 0, .null, [], none),
  (133, 1, .aload_n 0, 0, 0, .null, [], none),
  (134, 2, .iload 4, 4, 0, .null, [], none),
  (136, 1, .iconst 1, 0, 0, .int 1, [], none),
  (137, 1, .iadd, 0, 0, .null, [], none),
  (138, 1, .iaload, 0, 0, .null, [], none),
  (139, 1, .i2l, 0, 0, .null, [], none),
  (140, 2, .bipush 32, 0, 0, .int 32, [], none),
  (142, 1, .lshl, 0, 0, .null, [], none),
  (143, 1, .aload_n 0, 0, 0, .null, [], none),
  (144, 2, .iload 4, 4, 0, .null, [], none),
  (146, 1, .iconst 2, 0, 0, .int 2, [], none),
  (147, 1, .iadd, 0, 0, .null, [], none),
  (148, 1, .iaload, 0, 0, .null, [], none),
  (149, 1, .i2l, 0, 0, .null, [], none)] : List xr_E), xr_sd xm_P 186 e := by
  have hc : xp_cd xm_P 186 = code := rfl
  have ho : xp_own xm_P 186 = "ExchangeTextLaw" := rfl
  have hm : xp_ml xm_P 186 = 8 := rfl
  exact xl_cons (xk_new (C := xm_C0) (T := xm_T0) (N := 11) (ty := xm_ty0) hc xd_186_0 ho rfl xm_u0 xm_tk0 rfl (fun _ => rfl) xm_df0 xl_599 xl_600 xl_52) <|
    xl_cons (xk_dup hc xd_186_3) <|
    xl_cons (xk_callI (Y := xm_y0) ho rfl (by decide) ⟨by decide, by decide⟩ xl_52 hc xd_186_4 rfl rfl (b' := 0) rfl xm_nd0 rfl xl_601 xl_602) <|
    xl_cons (xk_astore_n hc xd_186_7 hm rfl (by decide)) <|
    xl_cons (xk_new (C := xm_C9) (T := xm_T9) (N := 25) (ty := xm_ty9) hc xd_186_8 ho rfl xm_u9 xm_tk9 rfl (fun _ => rfl) xm_df9 xl_603 xl_604 xl_202) <|
    xl_cons (xk_dup hc xd_186_11) <|
    xl_cons (xk_callI (Y := xm_y30) ho rfl (by decide) ⟨by decide, by decide⟩ xl_202 hc xd_186_12 rfl rfl (b' := 0) rfl xm_nd30 rfl xl_605 xl_606) <|
    xl_cons (xk_astore_n hc xd_186_15 hm rfl (by decide)) <|
    xl_cons (xk_iconst hc xd_186_16 (by decide)) <|
    xl_cons (xk_newarray hc xd_186_17 (by decide) rfl xl_197) <|
    xl_cons (xk_astore_n hc xd_186_19 hm rfl (by decide)) <|
    xl_cons (xk_iconst hc xd_186_20 (by decide)) <|
    xl_cons (xk_istore hc xd_186_21 hm rfl (by decide)) <|
    xl_cons (xk_iload hc xd_186_23 rfl) <|
    xl_cons (xk_aload_n hc xd_186_25 rfl) <|
    xl_cons (xk_arraylength hc xd_186_26) <|
    xl_cons (xk_iconst hc xd_186_27 (by decide)) <|
    xl_cons (xk_isub hc xd_186_28) <|
    xl_cons (xk_if_icmp hc xd_186_29 (by decide)) <|
    xl_cons (xk_aload_n hc xd_186_32 rfl) <|
    xl_cons (xk_iload hc xd_186_33 rfl) <|
    xl_cons (xk_iaload hc xd_186_35) <|
    xl_cons (xk_bipush hc xd_186_36 (by decide)) <|
    xl_cons (xk_iand hc xd_186_38) <|
    xl_cons (xk_tableswitch hc xd_186_39 (by decide) xs_186_39) <|
    xl_cons (xk_aload_n hc xd_186_132 rfl) <|
    xl_cons (xk_aload_n hc xd_186_133 rfl) <|
    xl_cons (xk_iload hc xd_186_134 rfl) <|
    xl_cons (xk_iconst hc xd_186_136 (by decide)) <|
    xl_cons (xk_iadd hc xd_186_137) <|
    xl_cons (xk_iaload hc xd_186_138) <|
    xl_cons (xk_i2l hc xd_186_139) <|
    xl_cons (xk_bipush hc xd_186_140 (by decide)) <|
    xl_cons (xk_lshl hc xd_186_142) <|
    xl_cons (xk_aload_n hc xd_186_143 rfl) <|
    xl_cons (xk_iload hc xd_186_144 rfl) <|
    xl_cons (xk_iconst hc xd_186_146 (by decide)) <|
    xl_cons (xk_iadd hc xd_186_147) <|
    xl_cons (xk_iaload hc xd_186_148) <|
    xl_cons (xk_i2l hc xd_186_149) (xl_nil)
set_option maxRecDepth 100000 in
theorem xo_186_1 : ∀ e ∈ ([(150, 3, .ldc2_w 68, 0, 0, .long 4294967295, [], none),
  (153, 1, .land, 0, 0, .null, [], none),
  (154, 1, .lor, 0, 0, .null, [], none),
  (155, 1, .aload_n 3, 3, 0, .null, [], none),
  (156, 3, .invokestatic 70, 171, 3, .retAddr 6, [], none),
  (159, 2, .istore 5, 5, 0, .null, [], none),
  (161, 1, .aload_n 2, 2, 0, .null, [], none),
  (162, 1, .aload_n 0, 0, 0, .null, [], none),
  (163, 2, .iload 4, 4, 0, .null, [], none),
  (165, 1, .iconst 1, 0, 0, .int 1, [], none),
  (166, 1, .iadd, 0, 0, .null, [], none),
  (167, 1, .iaload, 0, 0, .null, [], none),
  (168, 1, .i2l, 0, 0, .null, [], none),
  (169, 2, .bipush 32, 0, 0, .int 32, [], none),
  (171, 1, .lshl, 0, 0, .null, [], none),
  (172, 1, .aload_n 0, 0, 0, .null, [], none),
  (173, 2, .iload 4, 4, 0, .null, [], none),
  (175, 1, .iconst 2, 0, 0, .int 2, [], none),
  (176, 1, .iadd, 0, 0, .null, [], none),
  (177, 1, .iaload, 0, 0, .null, [], none),
  (178, 1, .i2l, 0, 0, .null, [], none),
  (179, 3, .ldc2_w 68, 0, 0, .long 4294967295, [], none),
  (182, 1, .land, 0, 0, .null, [], none),
  (183, 1, .lor, 0, 0, .null, [], none),
  (184, 3, .invokevirtual 75, 33, 2, .retAddr 0, [], none),
  (187, 2, .istore 6, 6, 0, .null, [], none),
  (189, 1, .aload_n 2, 2, 0, .null, [], none),
  (190, 3, .invokevirtual 76, 31, 1, .retAddr 0, [], none),
  (193, 2, .iload 5, 5, 0, .null, [], none),
  (195, 3, .if_icmp .eq 5, 200, 0, .null, [], none),
  (198, 1, .iconst 0, 0, 0, .int 0, [], none),
  (199, 1, .ireturn, 0, 0, .null, [], none),
  (200, 2, .iload 5, 5, 0, .null, [], none),
  (202, 3, .ifCond .ne 15, 217, 0, .null, [], none),
  (205, 1, .aload_n 3, 3, 0, .null, [], none),
  (206, 1, .iconst 0, 0, 0, .int 0, [], none),
  (207, 1, .laload, 0, 0, .null, [], none),
  (208, 2, .iload 6, 6, 0, .null, [], none),
  (210, 1, .i2l, 0, 0, .null, [], none),
  (211, 1, .lcmp, 0, 0, .null, [], none)] : List xr_E), xr_sd xm_P 186 e := by
  have hc : xp_cd xm_P 186 = code := rfl
  have ho : xp_own xm_P 186 = "ExchangeTextLaw" := rfl
  have hm : xp_ml xm_P 186 = 8 := rfl
  exact xl_cons (xk_ldc2 hc xd_186_150 ho rfl xl_607) <|
    xl_cons (xk_land hc xd_186_153) <|
    xl_cons (xk_lor hc xd_186_154) <|
    xl_cons (xk_aload_n hc xd_186_155 rfl) <|
    xl_cons (xk_callSX (Y := xm_y171) ho rfl (by decide) ⟨by decide, by decide⟩ xl_609 hc xd_186_156 (by decide) xm_nd171 xl_608 xl_610) <|
    xl_cons (xk_istore hc xd_186_159 hm rfl (by decide)) <|
    xl_cons (xk_aload_n hc xd_186_161 rfl) <|
    xl_cons (xk_aload_n hc xd_186_162 rfl) <|
    xl_cons (xk_iload hc xd_186_163 rfl) <|
    xl_cons (xk_iconst hc xd_186_165 (by decide)) <|
    xl_cons (xk_iadd hc xd_186_166) <|
    xl_cons (xk_iaload hc xd_186_167) <|
    xl_cons (xk_i2l hc xd_186_168) <|
    xl_cons (xk_bipush hc xd_186_169 (by decide)) <|
    xl_cons (xk_lshl hc xd_186_171) <|
    xl_cons (xk_aload_n hc xd_186_172 rfl) <|
    xl_cons (xk_iload hc xd_186_173 rfl) <|
    xl_cons (xk_iconst hc xd_186_175 (by decide)) <|
    xl_cons (xk_iadd hc xd_186_176) <|
    xl_cons (xk_iaload hc xd_186_177) <|
    xl_cons (xk_i2l hc xd_186_178) <|
    xl_cons (xk_ldc2 hc xd_186_179 ho rfl xl_607) <|
    xl_cons (xk_land hc xd_186_182) <|
    xl_cons (xk_lor hc xd_186_183) <|
    xl_cons (xk_callV (Y := xm_y33) ho rfl (by decide) ⟨by decide, by decide⟩ xl_202 hc xd_186_184 rfl (b' := 1) rfl xm_nd33 (T := xm_T9) (N := 25) rfl xl_611 xl_612 xl_613) <|
    xl_cons (xk_istore hc xd_186_187 hm rfl (by decide)) <|
    xl_cons (xk_aload_n hc xd_186_189 rfl) <|
    xl_cons (xk_callV (Y := xm_y31) ho rfl (by decide) ⟨by decide, by decide⟩ xl_202 hc xd_186_190 rfl (b' := 0) rfl xm_nd31 (T := xm_T9) (N := 25) rfl xl_614 xl_615 xl_616) <|
    xl_cons (xk_iload hc xd_186_193 rfl) <|
    xl_cons (xk_if_icmp hc xd_186_195 (by decide)) <|
    xl_cons (xk_iconst hc xd_186_198 (by decide)) <|
    xl_cons (xk_ireturn hc xd_186_199) <|
    xl_cons (xk_iload hc xd_186_200 rfl) <|
    xl_cons (xk_ifCond hc xd_186_202 (by decide)) <|
    xl_cons (xk_aload_n hc xd_186_205 rfl) <|
    xl_cons (xk_iconst hc xd_186_206 (by decide)) <|
    xl_cons (xk_laload hc xd_186_207) <|
    xl_cons (xk_iload hc xd_186_208 rfl) <|
    xl_cons (xk_i2l hc xd_186_210) <|
    xl_cons (xk_lcmp hc xd_186_211) (xl_nil)
set_option maxRecDepth 100000 in
theorem xo_186_2 : ∀ e ∈ ([(212, 3, .ifCond .eq 5, 217, 0, .null, [], none),
  (215, 1, .iconst 0, 0, 0, .int 0, [], none),
  (216, 1, .ireturn, 0, 0, .null, [], none),
  (217, 3, .goto 1002, 1219, 0, .null, [], none),
  (220, 1, .aload_n 1, 1, 0, .null, [], none),
  (221, 1, .aload_n 0, 0, 0, .null, [], none),
  (222, 2, .iload 4, 4, 0, .null, [], none),
  (224, 1, .iconst 1, 0, 0, .int 1, [], none),
  (225, 1, .iadd, 0, 0, .null, [], none),
  (226, 1, .iaload, 0, 0, .null, [], none),
  (227, 1, .aload_n 3, 3, 0, .null, [], none),
  (228, 3, .invokestatic 80, 172, 3, .retAddr 6, [], none),
  (231, 2, .istore 5, 5, 0, .null, [], none),
  (233, 1, .aload_n 2, 2, 0, .null, [], none),
  (234, 1, .aload_n 0, 0, 0, .null, [], none),
  (235, 2, .iload 4, 4, 0, .null, [], none),
  (237, 1, .iconst 1, 0, 0, .int 1, [], none),
  (238, 1, .iadd, 0, 0, .null, [], none),
  (239, 1, .iaload, 0, 0, .null, [], none),
  (240, 3, .invokevirtual 83, 34, 2, .retAddr 0, [], none),
  (243, 2, .istore 6, 6, 0, .null, [], none),
  (245, 1, .aload_n 2, 2, 0, .null, [], none),
  (246, 3, .invokevirtual 76, 31, 1, .retAddr 0, [], none),
  (249, 2, .iload 5, 5, 0, .null, [], none),
  (251, 3, .if_icmp .eq 5, 256, 0, .null, [], none),
  (254, 1, .iconst 0, 0, 0, .int 0, [], none),
  (255, 1, .ireturn, 0, 0, .null, [], none),
  (256, 2, .iload 5, 5, 0, .null, [], none),
  (258, 3, .ifCond .ne 15, 273, 0, .null, [], none),
  (261, 1, .aload_n 3, 3, 0, .null, [], none),
  (262, 1, .iconst 0, 0, 0, .int 0, [], none),
  (263, 1, .laload, 0, 0, .null, [], none),
  (264, 2, .iload 6, 6, 0, .null, [], none),
  (266, 1, .i2l, 0, 0, .null, [], none),
  (267, 1, .lcmp, 0, 0, .null, [], none),
  (268, 3, .ifCond .eq 5, 273, 0, .null, [], none),
  (271, 1, .iconst 0, 0, 0, .int 0, [], none),
  (272, 1, .ireturn, 0, 0, .null, [], none),
  (273, 3, .goto 946, 1219, 0, .null, [], none),
  (276, 1, .aload_n 1, 1, 0, .null, [], none)] : List xr_E), xr_sd xm_P 186 e := by
  have hc : xp_cd xm_P 186 = code := rfl
  have ho : xp_own xm_P 186 = "ExchangeTextLaw" := rfl
  have hm : xp_ml xm_P 186 = 8 := rfl
  exact xl_cons (xk_ifCond hc xd_186_212 (by decide)) <|
    xl_cons (xk_iconst hc xd_186_215 (by decide)) <|
    xl_cons (xk_ireturn hc xd_186_216) <|
    xl_cons (xk_goto hc xd_186_217 (by decide)) <|
    xl_cons (xk_aload_n hc xd_186_220 rfl) <|
    xl_cons (xk_aload_n hc xd_186_221 rfl) <|
    xl_cons (xk_iload hc xd_186_222 rfl) <|
    xl_cons (xk_iconst hc xd_186_224 (by decide)) <|
    xl_cons (xk_iadd hc xd_186_225) <|
    xl_cons (xk_iaload hc xd_186_226) <|
    xl_cons (xk_aload_n hc xd_186_227 rfl) <|
    xl_cons (xk_callSX (Y := xm_y172) ho rfl (by decide) ⟨by decide, by decide⟩ xl_609 hc xd_186_228 (by decide) xm_nd172 xl_617 xl_618) <|
    xl_cons (xk_istore hc xd_186_231 hm rfl (by decide)) <|
    xl_cons (xk_aload_n hc xd_186_233 rfl) <|
    xl_cons (xk_aload_n hc xd_186_234 rfl) <|
    xl_cons (xk_iload hc xd_186_235 rfl) <|
    xl_cons (xk_iconst hc xd_186_237 (by decide)) <|
    xl_cons (xk_iadd hc xd_186_238) <|
    xl_cons (xk_iaload hc xd_186_239) <|
    xl_cons (xk_callV (Y := xm_y34) ho rfl (by decide) ⟨by decide, by decide⟩ xl_202 hc xd_186_240 rfl (b' := 1) rfl xm_nd34 (T := xm_T9) (N := 25) rfl xl_619 xl_620 xl_621) <|
    xl_cons (xk_istore hc xd_186_243 hm rfl (by decide)) <|
    xl_cons (xk_aload_n hc xd_186_245 rfl) <|
    xl_cons (xk_callV (Y := xm_y31) ho rfl (by decide) ⟨by decide, by decide⟩ xl_202 hc xd_186_246 rfl (b' := 0) rfl xm_nd31 (T := xm_T9) (N := 25) rfl xl_614 xl_615 xl_616) <|
    xl_cons (xk_iload hc xd_186_249 rfl) <|
    xl_cons (xk_if_icmp hc xd_186_251 (by decide)) <|
    xl_cons (xk_iconst hc xd_186_254 (by decide)) <|
    xl_cons (xk_ireturn hc xd_186_255) <|
    xl_cons (xk_iload hc xd_186_256 rfl) <|
    xl_cons (xk_ifCond hc xd_186_258 (by decide)) <|
    xl_cons (xk_aload_n hc xd_186_261 rfl) <|
    xl_cons (xk_iconst hc xd_186_262 (by decide)) <|
    xl_cons (xk_laload hc xd_186_263) <|
    xl_cons (xk_iload hc xd_186_264 rfl) <|
    xl_cons (xk_i2l hc xd_186_266) <|
    xl_cons (xk_lcmp hc xd_186_267) <|
    xl_cons (xk_ifCond hc xd_186_268 (by decide)) <|
    xl_cons (xk_iconst hc xd_186_271 (by decide)) <|
    xl_cons (xk_ireturn hc xd_186_272) <|
    xl_cons (xk_goto hc xd_186_273 (by decide)) <|
    xl_cons (xk_aload_n hc xd_186_276 rfl) (xl_nil)
set_option maxRecDepth 100000 in
theorem xo_186_3 : ∀ e ∈ ([(277, 1, .aload_n 0, 0, 0, .null, [], none),
  (278, 2, .iload 4, 4, 0, .null, [], none),
  (280, 1, .iconst 1, 0, 0, .int 1, [], none),
  (281, 1, .iadd, 0, 0, .null, [], none),
  (282, 1, .iaload, 0, 0, .null, [], none),
  (283, 1, .aload_n 3, 3, 0, .null, [], none),
  (284, 3, .invokestatic 84, 173, 3, .retAddr 6, [], none),
  (287, 2, .istore 5, 5, 0, .null, [], none),
  (289, 1, .aload_n 2, 2, 0, .null, [], none),
  (290, 1, .aload_n 0, 0, 0, .null, [], none),
  (291, 2, .iload 4, 4, 0, .null, [], none),
  (293, 1, .iconst 1, 0, 0, .int 1, [], none),
  (294, 1, .iadd, 0, 0, .null, [], none),
  (295, 1, .iaload, 0, 0, .null, [], none),
  (296, 3, .invokevirtual 86, 35, 2, .retAddr 0, [], none),
  (299, 2, .istore 6, 6, 0, .null, [], none),
  (301, 1, .aload_n 2, 2, 0, .null, [], none),
  (302, 3, .invokevirtual 76, 31, 1, .retAddr 0, [], none),
  (305, 2, .iload 5, 5, 0, .null, [], none),
  (307, 3, .if_icmp .eq 5, 312, 0, .null, [], none),
  (310, 1, .iconst 0, 0, 0, .int 0, [], none),
  (311, 1, .ireturn, 0, 0, .null, [], none),
  (312, 2, .iload 5, 5, 0, .null, [], none),
  (314, 3, .ifCond .ne 15, 329, 0, .null, [], none),
  (317, 1, .aload_n 3, 3, 0, .null, [], none),
  (318, 1, .iconst 0, 0, 0, .int 0, [], none),
  (319, 1, .laload, 0, 0, .null, [], none),
  (320, 2, .iload 6, 6, 0, .null, [], none),
  (322, 1, .i2l, 0, 0, .null, [], none),
  (323, 1, .lcmp, 0, 0, .null, [], none),
  (324, 3, .ifCond .eq 5, 329, 0, .null, [], none),
  (327, 1, .iconst 0, 0, 0, .int 0, [], none),
  (328, 1, .ireturn, 0, 0, .null, [], none),
  (329, 3, .goto 890, 1219, 0, .null, [], none),
  (332, 1, .aload_n 1, 1, 0, .null, [], none),
  (333, 3, .invokevirtual 87, 4, 1, .retAddr 0, [], none),
  (336, 1, .aload_n 2, 2, 0, .null, [], none),
  (337, 3, .invokevirtual 90, 49, 1, .retAddr 0, [], none),
  (340, 3, .if_icmp .eq 879, 1219, 0, .null, [], none),
  (343, 1, .iconst 0, 0, 0, .int 0, [], none)] : List xr_E), xr_sd xm_P 186 e := by
  have hc : xp_cd xm_P 186 = code := rfl
  have ho : xp_own xm_P 186 = "ExchangeTextLaw" := rfl
  have hm : xp_ml xm_P 186 = 8 := rfl
  exact xl_cons (xk_aload_n hc xd_186_277 rfl) <|
    xl_cons (xk_iload hc xd_186_278 rfl) <|
    xl_cons (xk_iconst hc xd_186_280 (by decide)) <|
    xl_cons (xk_iadd hc xd_186_281) <|
    xl_cons (xk_iaload hc xd_186_282) <|
    xl_cons (xk_aload_n hc xd_186_283 rfl) <|
    xl_cons (xk_callSX (Y := xm_y173) ho rfl (by decide) ⟨by decide, by decide⟩ xl_609 hc xd_186_284 (by decide) xm_nd173 xl_622 xl_623) <|
    xl_cons (xk_istore hc xd_186_287 hm rfl (by decide)) <|
    xl_cons (xk_aload_n hc xd_186_289 rfl) <|
    xl_cons (xk_aload_n hc xd_186_290 rfl) <|
    xl_cons (xk_iload hc xd_186_291 rfl) <|
    xl_cons (xk_iconst hc xd_186_293 (by decide)) <|
    xl_cons (xk_iadd hc xd_186_294) <|
    xl_cons (xk_iaload hc xd_186_295) <|
    xl_cons (xk_callV (Y := xm_y35) ho rfl (by decide) ⟨by decide, by decide⟩ xl_202 hc xd_186_296 rfl (b' := 1) rfl xm_nd35 (T := xm_T9) (N := 25) rfl xl_624 xl_625 xl_626) <|
    xl_cons (xk_istore hc xd_186_299 hm rfl (by decide)) <|
    xl_cons (xk_aload_n hc xd_186_301 rfl) <|
    xl_cons (xk_callV (Y := xm_y31) ho rfl (by decide) ⟨by decide, by decide⟩ xl_202 hc xd_186_302 rfl (b' := 0) rfl xm_nd31 (T := xm_T9) (N := 25) rfl xl_614 xl_615 xl_616) <|
    xl_cons (xk_iload hc xd_186_305 rfl) <|
    xl_cons (xk_if_icmp hc xd_186_307 (by decide)) <|
    xl_cons (xk_iconst hc xd_186_310 (by decide)) <|
    xl_cons (xk_ireturn hc xd_186_311) <|
    xl_cons (xk_iload hc xd_186_312 rfl) <|
    xl_cons (xk_ifCond hc xd_186_314 (by decide)) <|
    xl_cons (xk_aload_n hc xd_186_317 rfl) <|
    xl_cons (xk_iconst hc xd_186_318 (by decide)) <|
    xl_cons (xk_laload hc xd_186_319) <|
    xl_cons (xk_iload hc xd_186_320 rfl) <|
    xl_cons (xk_i2l hc xd_186_322) <|
    xl_cons (xk_lcmp hc xd_186_323) <|
    xl_cons (xk_ifCond hc xd_186_324 (by decide)) <|
    xl_cons (xk_iconst hc xd_186_327 (by decide)) <|
    xl_cons (xk_ireturn hc xd_186_328) <|
    xl_cons (xk_goto hc xd_186_329 (by decide)) <|
    xl_cons (xk_aload_n hc xd_186_332 rfl) <|
    xl_cons (xk_callV (Y := xm_y4) ho rfl (by decide) ⟨by decide, by decide⟩ xl_52 hc xd_186_333 rfl (b' := 0) rfl xm_nd4 (T := xm_T0) (N := 11) rfl xl_627 xl_628 xl_629) <|
    xl_cons (xk_aload_n hc xd_186_336 rfl) <|
    xl_cons (xk_callV (Y := xm_y49) ho rfl (by decide) ⟨by decide, by decide⟩ xl_202 hc xd_186_337 rfl (b' := 0) rfl xm_nd49 (T := xm_T9) (N := 25) rfl xl_630 xl_631 xl_632) <|
    xl_cons (xk_if_icmp hc xd_186_340 (by decide)) <|
    xl_cons (xk_iconst hc xd_186_343 (by decide)) (xl_nil)
set_option maxRecDepth 100000 in
theorem xo_186_4 : ∀ e ∈ ([(344, 1, .ireturn, 0, 0, .null, [], none),
  (345, 1, .aload_n 1, 1, 0, .null, [], none),
  (346, 3, .invokevirtual 91, 5, 1, .retAddr 0, [], none),
  (349, 1, .aload_n 2, 2, 0, .null, [], none),
  (350, 3, .invokevirtual 94, 57, 1, .retAddr 0, [], none),
  (353, 3, .if_icmp .eq 866, 1219, 0, .null, [], none),
  (356, 1, .iconst 0, 0, 0, .int 0, [], none),
  (357, 1, .ireturn, 0, 0, .null, [], none),
  (358, 1, .aload_n 1, 1, 0, .null, [], none),
  (359, 3, .invokevirtual 95, 6, 1, .retAddr 0, [], none),
  (362, 1, .aload_n 2, 2, 0, .null, [], none),
  (363, 3, .invokevirtual 98, 61, 1, .retAddr 0, [], none),
  (366, 3, .if_icmp .eq 853, 1219, 0, .null, [], none),
  (369, 1, .iconst 0, 0, 0, .int 0, [], none),
  (370, 1, .ireturn, 0, 0, .null, [], none),
  (371, 1, .aload_n 1, 1, 0, .null, [], none),
  (372, 3, .invokevirtual 99, 7, 1, .retAddr 0, [], none),
  (375, 1, .aload_n 2, 2, 0, .null, [], none),
  (376, 3, .invokevirtual 102, 62, 1, .retAddr 0, [], none),
  (379, 3, .if_icmp .eq 840, 1219, 0, .null, [], none),
  (382, 1, .iconst 0, 0, 0, .int 0, [], none),
  (383, 1, .ireturn, 0, 0, .null, [], none),
  (384, 1, .aload_n 1, 1, 0, .null, [], none),
  (385, 1, .aload_n 0, 0, 0, .null, [], none),
  (386, 2, .iload 4, 4, 0, .null, [], none),
  (388, 1, .iconst 1, 0, 0, .int 1, [], none),
  (389, 1, .iadd, 0, 0, .null, [], none),
  (390, 1, .iaload, 0, 0, .null, [], none),
  (391, 1, .aload_n 3, 3, 0, .null, [], none),
  (392, 3, .invokestatic 103, 174, 3, .retAddr 6, [], none),
  (395, 2, .istore 5, 5, 0, .null, [], none),
  (397, 1, .aload_n 2, 2, 0, .null, [], none),
  (398, 1, .aload_n 0, 0, 0, .null, [], none),
  (399, 2, .iload 4, 4, 0, .null, [], none),
  (401, 1, .iconst 1, 0, 0, .int 1, [], none),
  (402, 1, .iadd, 0, 0, .null, [], none),
  (403, 1, .iaload, 0, 0, .null, [], none),
  (404, 3, .invokevirtual 105, 63, 2, .retAddr 0, [], none),
  (407, 2, .istore 6, 6, 0, .null, [], none),
  (409, 1, .aload_n 2, 2, 0, .null, [], none)] : List xr_E), xr_sd xm_P 186 e := by
  have hc : xp_cd xm_P 186 = code := rfl
  have ho : xp_own xm_P 186 = "ExchangeTextLaw" := rfl
  have hm : xp_ml xm_P 186 = 8 := rfl
  exact xl_cons (xk_ireturn hc xd_186_344) <|
    xl_cons (xk_aload_n hc xd_186_345 rfl) <|
    xl_cons (xk_callV (Y := xm_y5) ho rfl (by decide) ⟨by decide, by decide⟩ xl_52 hc xd_186_346 rfl (b' := 0) rfl xm_nd5 (T := xm_T0) (N := 11) rfl xl_633 xl_634 xl_635) <|
    xl_cons (xk_aload_n hc xd_186_349 rfl) <|
    xl_cons (xk_callV (Y := xm_y57) ho rfl (by decide) ⟨by decide, by decide⟩ xl_202 hc xd_186_350 rfl (b' := 0) rfl xm_nd57 (T := xm_T9) (N := 25) rfl xl_636 xl_637 xl_638) <|
    xl_cons (xk_if_icmp hc xd_186_353 (by decide)) <|
    xl_cons (xk_iconst hc xd_186_356 (by decide)) <|
    xl_cons (xk_ireturn hc xd_186_357) <|
    xl_cons (xk_aload_n hc xd_186_358 rfl) <|
    xl_cons (xk_callV (Y := xm_y6) ho rfl (by decide) ⟨by decide, by decide⟩ xl_52 hc xd_186_359 rfl (b' := 0) rfl xm_nd6 (T := xm_T0) (N := 11) rfl xl_639 xl_640 xl_641) <|
    xl_cons (xk_aload_n hc xd_186_362 rfl) <|
    xl_cons (xk_callV (Y := xm_y61) ho rfl (by decide) ⟨by decide, by decide⟩ xl_202 hc xd_186_363 rfl (b' := 0) rfl xm_nd61 (T := xm_T9) (N := 25) rfl xl_642 xl_643 xl_644) <|
    xl_cons (xk_if_icmp hc xd_186_366 (by decide)) <|
    xl_cons (xk_iconst hc xd_186_369 (by decide)) <|
    xl_cons (xk_ireturn hc xd_186_370) <|
    xl_cons (xk_aload_n hc xd_186_371 rfl) <|
    xl_cons (xk_callV (Y := xm_y7) ho rfl (by decide) ⟨by decide, by decide⟩ xl_52 hc xd_186_372 rfl (b' := 0) rfl xm_nd7 (T := xm_T0) (N := 11) rfl xl_645 xl_646 xl_647) <|
    xl_cons (xk_aload_n hc xd_186_375 rfl) <|
    xl_cons (xk_callV (Y := xm_y62) ho rfl (by decide) ⟨by decide, by decide⟩ xl_202 hc xd_186_376 rfl (b' := 0) rfl xm_nd62 (T := xm_T9) (N := 25) rfl xl_648 xl_649 xl_650) <|
    xl_cons (xk_if_icmp hc xd_186_379 (by decide)) <|
    xl_cons (xk_iconst hc xd_186_382 (by decide)) <|
    xl_cons (xk_ireturn hc xd_186_383) <|
    xl_cons (xk_aload_n hc xd_186_384 rfl) <|
    xl_cons (xk_aload_n hc xd_186_385 rfl) <|
    xl_cons (xk_iload hc xd_186_386 rfl) <|
    xl_cons (xk_iconst hc xd_186_388 (by decide)) <|
    xl_cons (xk_iadd hc xd_186_389) <|
    xl_cons (xk_iaload hc xd_186_390) <|
    xl_cons (xk_aload_n hc xd_186_391 rfl) <|
    xl_cons (xk_callSX (Y := xm_y174) ho rfl (by decide) ⟨by decide, by decide⟩ xl_609 hc xd_186_392 (by decide) xm_nd174 xl_651 xl_652) <|
    xl_cons (xk_istore hc xd_186_395 hm rfl (by decide)) <|
    xl_cons (xk_aload_n hc xd_186_397 rfl) <|
    xl_cons (xk_aload_n hc xd_186_398 rfl) <|
    xl_cons (xk_iload hc xd_186_399 rfl) <|
    xl_cons (xk_iconst hc xd_186_401 (by decide)) <|
    xl_cons (xk_iadd hc xd_186_402) <|
    xl_cons (xk_iaload hc xd_186_403) <|
    xl_cons (xk_callV (Y := xm_y63) ho rfl (by decide) ⟨by decide, by decide⟩ xl_202 hc xd_186_404 rfl (b' := 1) rfl xm_nd63 (T := xm_T9) (N := 25) rfl xl_653 xl_654 xl_655) <|
    xl_cons (xk_istore hc xd_186_407 hm rfl (by decide)) <|
    xl_cons (xk_aload_n hc xd_186_409 rfl) (xl_nil)
set_option maxRecDepth 100000 in
theorem xo_186_5 : ∀ e ∈ ([(410, 3, .invokevirtual 76, 31, 1, .retAddr 0, [], none),
  (413, 2, .iload 5, 5, 0, .null, [], none),
  (415, 3, .if_icmp .eq 5, 420, 0, .null, [], none),
  (418, 1, .iconst 0, 0, 0, .int 0, [], none),
  (419, 1, .ireturn, 0, 0, .null, [], none),
  (420, 2, .iload 5, 5, 0, .null, [], none),
  (422, 3, .ifCond .ne 15, 437, 0, .null, [], none),
  (425, 1, .aload_n 3, 3, 0, .null, [], none),
  (426, 1, .iconst 0, 0, 0, .int 0, [], none),
  (427, 1, .laload, 0, 0, .null, [], none),
  (428, 2, .iload 6, 6, 0, .null, [], none),
  (430, 1, .i2l, 0, 0, .null, [], none),
  (431, 1, .lcmp, 0, 0, .null, [], none),
  (432, 3, .ifCond .eq 5, 437, 0, .null, [], none),
  (435, 1, .iconst 0, 0, 0, .int 0, [], none),
  (436, 1, .ireturn, 0, 0, .null, [], none),
  (437, 3, .goto 782, 1219, 0, .null, [], none),
  (440, 1, .aload_n 1, 1, 0, .null, [], none),
  (441, 1, .aload_n 0, 0, 0, .null, [], none),
  (442, 2, .iload 4, 4, 0, .null, [], none),
  (444, 1, .iconst 1, 0, 0, .int 1, [], none),
  (445, 1, .iadd, 0, 0, .null, [], none),
  (446, 1, .iaload, 0, 0, .null, [], none),
  (447, 1, .aload_n 0, 0, 0, .null, [], none),
  (448, 2, .iload 4, 4, 0, .null, [], none),
  (450, 1, .iconst 2, 0, 0, .int 2, [], none),
  (451, 1, .iadd, 0, 0, .null, [], none),
  (452, 1, .iaload, 0, 0, .null, [], none),
  (453, 1, .aload_n 3, 3, 0, .null, [], none),
  (454, 3, .invokestatic 106, 175, 4, .retAddr 6, [], none),
  (457, 2, .istore 5, 5, 0, .null, [], none),
  (459, 1, .aload_n 2, 2, 0, .null, [], none),
  (460, 1, .aload_n 0, 0, 0, .null, [], none),
  (461, 2, .iload 4, 4, 0, .null, [], none),
  (463, 1, .iconst 1, 0, 0, .int 1, [], none),
  (464, 1, .iadd, 0, 0, .null, [], none),
  (465, 1, .iaload, 0, 0, .null, [], none),
  (466, 1, .aload_n 0, 0, 0, .null, [], none),
  (467, 2, .iload 4, 4, 0, .null, [], none),
  (469, 1, .iconst 2, 0, 0, .int 2, [], none)] : List xr_E), xr_sd xm_P 186 e := by
  have hc : xp_cd xm_P 186 = code := rfl
  have ho : xp_own xm_P 186 = "ExchangeTextLaw" := rfl
  have hm : xp_ml xm_P 186 = 8 := rfl
  exact xl_cons (xk_callV (Y := xm_y31) ho rfl (by decide) ⟨by decide, by decide⟩ xl_202 hc xd_186_410 rfl (b' := 0) rfl xm_nd31 (T := xm_T9) (N := 25) rfl xl_614 xl_615 xl_616) <|
    xl_cons (xk_iload hc xd_186_413 rfl) <|
    xl_cons (xk_if_icmp hc xd_186_415 (by decide)) <|
    xl_cons (xk_iconst hc xd_186_418 (by decide)) <|
    xl_cons (xk_ireturn hc xd_186_419) <|
    xl_cons (xk_iload hc xd_186_420 rfl) <|
    xl_cons (xk_ifCond hc xd_186_422 (by decide)) <|
    xl_cons (xk_aload_n hc xd_186_425 rfl) <|
    xl_cons (xk_iconst hc xd_186_426 (by decide)) <|
    xl_cons (xk_laload hc xd_186_427) <|
    xl_cons (xk_iload hc xd_186_428 rfl) <|
    xl_cons (xk_i2l hc xd_186_430) <|
    xl_cons (xk_lcmp hc xd_186_431) <|
    xl_cons (xk_ifCond hc xd_186_432 (by decide)) <|
    xl_cons (xk_iconst hc xd_186_435 (by decide)) <|
    xl_cons (xk_ireturn hc xd_186_436) <|
    xl_cons (xk_goto hc xd_186_437 (by decide)) <|
    xl_cons (xk_aload_n hc xd_186_440 rfl) <|
    xl_cons (xk_aload_n hc xd_186_441 rfl) <|
    xl_cons (xk_iload hc xd_186_442 rfl) <|
    xl_cons (xk_iconst hc xd_186_444 (by decide)) <|
    xl_cons (xk_iadd hc xd_186_445) <|
    xl_cons (xk_iaload hc xd_186_446) <|
    xl_cons (xk_aload_n hc xd_186_447 rfl) <|
    xl_cons (xk_iload hc xd_186_448 rfl) <|
    xl_cons (xk_iconst hc xd_186_450 (by decide)) <|
    xl_cons (xk_iadd hc xd_186_451) <|
    xl_cons (xk_iaload hc xd_186_452) <|
    xl_cons (xk_aload_n hc xd_186_453 rfl) <|
    xl_cons (xk_callSX (Y := xm_y175) ho rfl (by decide) ⟨by decide, by decide⟩ xl_609 hc xd_186_454 (by decide) xm_nd175 xl_656 xl_657) <|
    xl_cons (xk_istore hc xd_186_457 hm rfl (by decide)) <|
    xl_cons (xk_aload_n hc xd_186_459 rfl) <|
    xl_cons (xk_aload_n hc xd_186_460 rfl) <|
    xl_cons (xk_iload hc xd_186_461 rfl) <|
    xl_cons (xk_iconst hc xd_186_463 (by decide)) <|
    xl_cons (xk_iadd hc xd_186_464) <|
    xl_cons (xk_iaload hc xd_186_465) <|
    xl_cons (xk_aload_n hc xd_186_466 rfl) <|
    xl_cons (xk_iload hc xd_186_467 rfl) <|
    xl_cons (xk_iconst hc xd_186_469 (by decide)) (xl_nil)
set_option maxRecDepth 100000 in
theorem xo_186_6 : ∀ e ∈ ([(470, 1, .iadd, 0, 0, .null, [], none),
  (471, 1, .iaload, 0, 0, .null, [], none),
  (472, 3, .invokevirtual 109, 70, 3, .retAddr 0, [], none),
  (475, 2, .istore 6, 6, 0, .null, [], none),
  (477, 1, .aload_n 2, 2, 0, .null, [], none),
  (478, 3, .invokevirtual 76, 31, 1, .retAddr 0, [], none),
  (481, 2, .iload 5, 5, 0, .null, [], none),
  (483, 3, .if_icmp .eq 5, 488, 0, .null, [], none),
  (486, 1, .iconst 0, 0, 0, .int 0, [], none),
  (487, 1, .ireturn, 0, 0, .null, [], none),
  (488, 2, .iload 5, 5, 0, .null, [], none),
  (490, 3, .ifCond .ne 15, 505, 0, .null, [], none),
  (493, 1, .aload_n 3, 3, 0, .null, [], none),
  (494, 1, .iconst 0, 0, 0, .int 0, [], none),
  (495, 1, .laload, 0, 0, .null, [], none),
  (496, 2, .iload 6, 6, 0, .null, [], none),
  (498, 1, .i2l, 0, 0, .null, [], none),
  (499, 1, .lcmp, 0, 0, .null, [], none),
  (500, 3, .ifCond .eq 5, 505, 0, .null, [], none),
  (503, 1, .iconst 0, 0, 0, .int 0, [], none),
  (504, 1, .ireturn, 0, 0, .null, [], none),
  (505, 3, .goto 714, 1219, 0, .null, [], none),
  (508, 1, .aload_n 1, 1, 0, .null, [], none),
  (509, 1, .aload_n 0, 0, 0, .null, [], none),
  (510, 2, .iload 4, 4, 0, .null, [], none),
  (512, 1, .iconst 1, 0, 0, .int 1, [], none),
  (513, 1, .iadd, 0, 0, .null, [], none),
  (514, 1, .iaload, 0, 0, .null, [], none),
  (515, 1, .aload_n 0, 0, 0, .null, [], none),
  (516, 2, .iload 4, 4, 0, .null, [], none),
  (518, 1, .iconst 2, 0, 0, .int 2, [], none),
  (519, 1, .iadd, 0, 0, .null, [], none),
  (520, 1, .iaload, 0, 0, .null, [], none),
  (521, 1, .aload_n 0, 0, 0, .null, [], none),
  (522, 2, .iload 4, 4, 0, .null, [], none),
  (524, 1, .iconst 3, 0, 0, .int 3, [], none),
  (525, 1, .iadd, 0, 0, .null, [], none),
  (526, 1, .iaload, 0, 0, .null, [], none),
  (527, 1, .aload_n 3, 3, 0, .null, [], none),
  (528, 3, .invokestatic 110, 176, 5, .retAddr 6, [], none)] : List xr_E), xr_sd xm_P 186 e := by
  have hc : xp_cd xm_P 186 = code := rfl
  have ho : xp_own xm_P 186 = "ExchangeTextLaw" := rfl
  have hm : xp_ml xm_P 186 = 8 := rfl
  exact xl_cons (xk_iadd hc xd_186_470) <|
    xl_cons (xk_iaload hc xd_186_471) <|
    xl_cons (xk_callV (Y := xm_y70) ho rfl (by decide) ⟨by decide, by decide⟩ xl_202 hc xd_186_472 rfl (b' := 2) rfl xm_nd70 (T := xm_T9) (N := 25) rfl xl_658 xl_659 xl_660) <|
    xl_cons (xk_istore hc xd_186_475 hm rfl (by decide)) <|
    xl_cons (xk_aload_n hc xd_186_477 rfl) <|
    xl_cons (xk_callV (Y := xm_y31) ho rfl (by decide) ⟨by decide, by decide⟩ xl_202 hc xd_186_478 rfl (b' := 0) rfl xm_nd31 (T := xm_T9) (N := 25) rfl xl_614 xl_615 xl_616) <|
    xl_cons (xk_iload hc xd_186_481 rfl) <|
    xl_cons (xk_if_icmp hc xd_186_483 (by decide)) <|
    xl_cons (xk_iconst hc xd_186_486 (by decide)) <|
    xl_cons (xk_ireturn hc xd_186_487) <|
    xl_cons (xk_iload hc xd_186_488 rfl) <|
    xl_cons (xk_ifCond hc xd_186_490 (by decide)) <|
    xl_cons (xk_aload_n hc xd_186_493 rfl) <|
    xl_cons (xk_iconst hc xd_186_494 (by decide)) <|
    xl_cons (xk_laload hc xd_186_495) <|
    xl_cons (xk_iload hc xd_186_496 rfl) <|
    xl_cons (xk_i2l hc xd_186_498) <|
    xl_cons (xk_lcmp hc xd_186_499) <|
    xl_cons (xk_ifCond hc xd_186_500 (by decide)) <|
    xl_cons (xk_iconst hc xd_186_503 (by decide)) <|
    xl_cons (xk_ireturn hc xd_186_504) <|
    xl_cons (xk_goto hc xd_186_505 (by decide)) <|
    xl_cons (xk_aload_n hc xd_186_508 rfl) <|
    xl_cons (xk_aload_n hc xd_186_509 rfl) <|
    xl_cons (xk_iload hc xd_186_510 rfl) <|
    xl_cons (xk_iconst hc xd_186_512 (by decide)) <|
    xl_cons (xk_iadd hc xd_186_513) <|
    xl_cons (xk_iaload hc xd_186_514) <|
    xl_cons (xk_aload_n hc xd_186_515 rfl) <|
    xl_cons (xk_iload hc xd_186_516 rfl) <|
    xl_cons (xk_iconst hc xd_186_518 (by decide)) <|
    xl_cons (xk_iadd hc xd_186_519) <|
    xl_cons (xk_iaload hc xd_186_520) <|
    xl_cons (xk_aload_n hc xd_186_521 rfl) <|
    xl_cons (xk_iload hc xd_186_522 rfl) <|
    xl_cons (xk_iconst hc xd_186_524 (by decide)) <|
    xl_cons (xk_iadd hc xd_186_525) <|
    xl_cons (xk_iaload hc xd_186_526) <|
    xl_cons (xk_aload_n hc xd_186_527 rfl) <|
    xl_cons (xk_callSX (Y := xm_y176) ho rfl (by decide) ⟨by decide, by decide⟩ xl_609 hc xd_186_528 (by decide) xm_nd176 xl_661 xl_662) (xl_nil)
set_option maxRecDepth 100000 in
theorem xo_186_7 : ∀ e ∈ ([(531, 2, .istore 5, 5, 0, .null, [], none),
  (533, 1, .aload_n 2, 2, 0, .null, [], none),
  (534, 1, .aload_n 0, 0, 0, .null, [], none),
  (535, 2, .iload 4, 4, 0, .null, [], none),
  (537, 1, .iconst 1, 0, 0, .int 1, [], none),
  (538, 1, .iadd, 0, 0, .null, [], none),
  (539, 1, .iaload, 0, 0, .null, [], none),
  (540, 1, .aload_n 0, 0, 0, .null, [], none),
  (541, 2, .iload 4, 4, 0, .null, [], none),
  (543, 1, .iconst 2, 0, 0, .int 2, [], none),
  (544, 1, .iadd, 0, 0, .null, [], none),
  (545, 1, .iaload, 0, 0, .null, [], none),
  (546, 1, .aload_n 0, 0, 0, .null, [], none),
  (547, 2, .iload 4, 4, 0, .null, [], none),
  (549, 1, .iconst 3, 0, 0, .int 3, [], none),
  (550, 1, .iadd, 0, 0, .null, [], none),
  (551, 1, .iaload, 0, 0, .null, [], none),
  (552, 3, .invokevirtual 113, 72, 4, .retAddr 0, [], none),
  (555, 2, .istore 6, 6, 0, .null, [], none),
  (557, 1, .aload_n 2, 2, 0, .null, [], none),
  (558, 3, .invokevirtual 76, 31, 1, .retAddr 0, [], none),
  (561, 2, .iload 5, 5, 0, .null, [], none),
  (563, 3, .if_icmp .eq 5, 568, 0, .null, [], none),
  (566, 1, .iconst 0, 0, 0, .int 0, [], none),
  (567, 1, .ireturn, 0, 0, .null, [], none),
  (568, 2, .iload 5, 5, 0, .null, [], none),
  (570, 3, .ifCond .ne 15, 585, 0, .null, [], none),
  (573, 1, .aload_n 3, 3, 0, .null, [], none),
  (574, 1, .iconst 0, 0, 0, .int 0, [], none),
  (575, 1, .laload, 0, 0, .null, [], none),
  (576, 2, .iload 6, 6, 0, .null, [], none),
  (578, 1, .i2l, 0, 0, .null, [], none),
  (579, 1, .lcmp, 0, 0, .null, [], none),
  (580, 3, .ifCond .eq 5, 585, 0, .null, [], none),
  (583, 1, .iconst 0, 0, 0, .int 0, [], none),
  (584, 1, .ireturn, 0, 0, .null, [], none),
  (585, 3, .goto 634, 1219, 0, .null, [], none),
  (588, 1, .aload_n 1, 1, 0, .null, [], none),
  (589, 1, .aload_n 0, 0, 0, .null, [], none),
  (590, 2, .iload 4, 4, 0, .null, [], none)] : List xr_E), xr_sd xm_P 186 e := by
  have hc : xp_cd xm_P 186 = code := rfl
  have ho : xp_own xm_P 186 = "ExchangeTextLaw" := rfl
  have hm : xp_ml xm_P 186 = 8 := rfl
  exact xl_cons (xk_istore hc xd_186_531 hm rfl (by decide)) <|
    xl_cons (xk_aload_n hc xd_186_533 rfl) <|
    xl_cons (xk_aload_n hc xd_186_534 rfl) <|
    xl_cons (xk_iload hc xd_186_535 rfl) <|
    xl_cons (xk_iconst hc xd_186_537 (by decide)) <|
    xl_cons (xk_iadd hc xd_186_538) <|
    xl_cons (xk_iaload hc xd_186_539) <|
    xl_cons (xk_aload_n hc xd_186_540 rfl) <|
    xl_cons (xk_iload hc xd_186_541 rfl) <|
    xl_cons (xk_iconst hc xd_186_543 (by decide)) <|
    xl_cons (xk_iadd hc xd_186_544) <|
    xl_cons (xk_iaload hc xd_186_545) <|
    xl_cons (xk_aload_n hc xd_186_546 rfl) <|
    xl_cons (xk_iload hc xd_186_547 rfl) <|
    xl_cons (xk_iconst hc xd_186_549 (by decide)) <|
    xl_cons (xk_iadd hc xd_186_550) <|
    xl_cons (xk_iaload hc xd_186_551) <|
    xl_cons (xk_callV (Y := xm_y72) ho rfl (by decide) ⟨by decide, by decide⟩ xl_202 hc xd_186_552 rfl (b' := 3) rfl xm_nd72 (T := xm_T9) (N := 25) rfl xl_663 xl_664 xl_665) <|
    xl_cons (xk_istore hc xd_186_555 hm rfl (by decide)) <|
    xl_cons (xk_aload_n hc xd_186_557 rfl) <|
    xl_cons (xk_callV (Y := xm_y31) ho rfl (by decide) ⟨by decide, by decide⟩ xl_202 hc xd_186_558 rfl (b' := 0) rfl xm_nd31 (T := xm_T9) (N := 25) rfl xl_614 xl_615 xl_616) <|
    xl_cons (xk_iload hc xd_186_561 rfl) <|
    xl_cons (xk_if_icmp hc xd_186_563 (by decide)) <|
    xl_cons (xk_iconst hc xd_186_566 (by decide)) <|
    xl_cons (xk_ireturn hc xd_186_567) <|
    xl_cons (xk_iload hc xd_186_568 rfl) <|
    xl_cons (xk_ifCond hc xd_186_570 (by decide)) <|
    xl_cons (xk_aload_n hc xd_186_573 rfl) <|
    xl_cons (xk_iconst hc xd_186_574 (by decide)) <|
    xl_cons (xk_laload hc xd_186_575) <|
    xl_cons (xk_iload hc xd_186_576 rfl) <|
    xl_cons (xk_i2l hc xd_186_578) <|
    xl_cons (xk_lcmp hc xd_186_579) <|
    xl_cons (xk_ifCond hc xd_186_580 (by decide)) <|
    xl_cons (xk_iconst hc xd_186_583 (by decide)) <|
    xl_cons (xk_ireturn hc xd_186_584) <|
    xl_cons (xk_goto hc xd_186_585 (by decide)) <|
    xl_cons (xk_aload_n hc xd_186_588 rfl) <|
    xl_cons (xk_aload_n hc xd_186_589 rfl) <|
    xl_cons (xk_iload hc xd_186_590 rfl) (xl_nil)
set_option maxRecDepth 100000 in
theorem xo_186_8 : ∀ e ∈ ([(592, 1, .iconst 1, 0, 0, .int 1, [], none),
  (593, 1, .iadd, 0, 0, .null, [], none),
  (594, 1, .iaload, 0, 0, .null, [], none),
  (595, 1, .aload_n 0, 0, 0, .null, [], none),
  (596, 2, .iload 4, 4, 0, .null, [], none),
  (598, 1, .iconst 2, 0, 0, .int 2, [], none),
  (599, 1, .iadd, 0, 0, .null, [], none),
  (600, 1, .iaload, 0, 0, .null, [], none),
  (601, 1, .aload_n 0, 0, 0, .null, [], none),
  (602, 2, .iload 4, 4, 0, .null, [], none),
  (604, 1, .iconst 3, 0, 0, .int 3, [], none),
  (605, 1, .iadd, 0, 0, .null, [], none),
  (606, 1, .iaload, 0, 0, .null, [], none),
  (607, 1, .aload_n 3, 3, 0, .null, [], none),
  (608, 3, .invokestatic 114, 177, 5, .retAddr 6, [], none),
  (611, 2, .istore 5, 5, 0, .null, [], none),
  (613, 1, .aload_n 2, 2, 0, .null, [], none),
  (614, 1, .aload_n 0, 0, 0, .null, [], none),
  (615, 2, .iload 4, 4, 0, .null, [], none),
  (617, 1, .iconst 1, 0, 0, .int 1, [], none),
  (618, 1, .iadd, 0, 0, .null, [], none),
  (619, 1, .iaload, 0, 0, .null, [], none),
  (620, 1, .aload_n 0, 0, 0, .null, [], none),
  (621, 2, .iload 4, 4, 0, .null, [], none),
  (623, 1, .iconst 2, 0, 0, .int 2, [], none),
  (624, 1, .iadd, 0, 0, .null, [], none),
  (625, 1, .iaload, 0, 0, .null, [], none),
  (626, 1, .aload_n 0, 0, 0, .null, [], none),
  (627, 2, .iload 4, 4, 0, .null, [], none),
  (629, 1, .iconst 3, 0, 0, .int 3, [], none),
  (630, 1, .iadd, 0, 0, .null, [], none),
  (631, 1, .iaload, 0, 0, .null, [], none),
  (632, 3, .invokevirtual 116, 73, 4, .retAddr 0, [], none),
  (635, 2, .istore 6, 6, 0, .null, [], none),
  (637, 1, .aload_n 2, 2, 0, .null, [], none),
  (638, 3, .invokevirtual 76, 31, 1, .retAddr 0, [], none),
  (641, 2, .iload 5, 5, 0, .null, [], none),
  (643, 3, .if_icmp .eq 5, 648, 0, .null, [], none),
  (646, 1, .iconst 0, 0, 0, .int 0, [], none),
  (647, 1, .ireturn, 0, 0, .null, [], none)] : List xr_E), xr_sd xm_P 186 e := by
  have hc : xp_cd xm_P 186 = code := rfl
  have ho : xp_own xm_P 186 = "ExchangeTextLaw" := rfl
  have hm : xp_ml xm_P 186 = 8 := rfl
  exact xl_cons (xk_iconst hc xd_186_592 (by decide)) <|
    xl_cons (xk_iadd hc xd_186_593) <|
    xl_cons (xk_iaload hc xd_186_594) <|
    xl_cons (xk_aload_n hc xd_186_595 rfl) <|
    xl_cons (xk_iload hc xd_186_596 rfl) <|
    xl_cons (xk_iconst hc xd_186_598 (by decide)) <|
    xl_cons (xk_iadd hc xd_186_599) <|
    xl_cons (xk_iaload hc xd_186_600) <|
    xl_cons (xk_aload_n hc xd_186_601 rfl) <|
    xl_cons (xk_iload hc xd_186_602 rfl) <|
    xl_cons (xk_iconst hc xd_186_604 (by decide)) <|
    xl_cons (xk_iadd hc xd_186_605) <|
    xl_cons (xk_iaload hc xd_186_606) <|
    xl_cons (xk_aload_n hc xd_186_607 rfl) <|
    xl_cons (xk_callSX (Y := xm_y177) ho rfl (by decide) ⟨by decide, by decide⟩ xl_609 hc xd_186_608 (by decide) xm_nd177 xl_666 xl_667) <|
    xl_cons (xk_istore hc xd_186_611 hm rfl (by decide)) <|
    xl_cons (xk_aload_n hc xd_186_613 rfl) <|
    xl_cons (xk_aload_n hc xd_186_614 rfl) <|
    xl_cons (xk_iload hc xd_186_615 rfl) <|
    xl_cons (xk_iconst hc xd_186_617 (by decide)) <|
    xl_cons (xk_iadd hc xd_186_618) <|
    xl_cons (xk_iaload hc xd_186_619) <|
    xl_cons (xk_aload_n hc xd_186_620 rfl) <|
    xl_cons (xk_iload hc xd_186_621 rfl) <|
    xl_cons (xk_iconst hc xd_186_623 (by decide)) <|
    xl_cons (xk_iadd hc xd_186_624) <|
    xl_cons (xk_iaload hc xd_186_625) <|
    xl_cons (xk_aload_n hc xd_186_626 rfl) <|
    xl_cons (xk_iload hc xd_186_627 rfl) <|
    xl_cons (xk_iconst hc xd_186_629 (by decide)) <|
    xl_cons (xk_iadd hc xd_186_630) <|
    xl_cons (xk_iaload hc xd_186_631) <|
    xl_cons (xk_callV (Y := xm_y73) ho rfl (by decide) ⟨by decide, by decide⟩ xl_202 hc xd_186_632 rfl (b' := 3) rfl xm_nd73 (T := xm_T9) (N := 25) rfl xl_668 xl_669 xl_670) <|
    xl_cons (xk_istore hc xd_186_635 hm rfl (by decide)) <|
    xl_cons (xk_aload_n hc xd_186_637 rfl) <|
    xl_cons (xk_callV (Y := xm_y31) ho rfl (by decide) ⟨by decide, by decide⟩ xl_202 hc xd_186_638 rfl (b' := 0) rfl xm_nd31 (T := xm_T9) (N := 25) rfl xl_614 xl_615 xl_616) <|
    xl_cons (xk_iload hc xd_186_641 rfl) <|
    xl_cons (xk_if_icmp hc xd_186_643 (by decide)) <|
    xl_cons (xk_iconst hc xd_186_646 (by decide)) <|
    xl_cons (xk_ireturn hc xd_186_647) (xl_nil)
set_option maxRecDepth 100000 in
theorem xo_186_9 : ∀ e ∈ ([(648, 2, .iload 5, 5, 0, .null, [], none),
  (650, 3, .ifCond .ne 15, 665, 0, .null, [], none),
  (653, 1, .aload_n 3, 3, 0, .null, [], none),
  (654, 1, .iconst 0, 0, 0, .int 0, [], none),
  (655, 1, .laload, 0, 0, .null, [], none),
  (656, 2, .iload 6, 6, 0, .null, [], none),
  (658, 1, .i2l, 0, 0, .null, [], none),
  (659, 1, .lcmp, 0, 0, .null, [], none),
  (660, 3, .ifCond .eq 5, 665, 0, .null, [], none),
  (663, 1, .iconst 0, 0, 0, .int 0, [], none),
  (664, 1, .ireturn, 0, 0, .null, [], none),
  (665, 3, .goto 554, 1219, 0, .null, [], none),
  (668, 1, .aload_n 1, 1, 0, .null, [], none),
  (669, 1, .aload_n 0, 0, 0, .null, [], none),
  (670, 2, .iload 4, 4, 0, .null, [], none),
  (672, 1, .iconst 1, 0, 0, .int 1, [], none),
  (673, 1, .iadd, 0, 0, .null, [], none),
  (674, 1, .iaload, 0, 0, .null, [], none),
  (675, 1, .aload_n 0, 0, 0, .null, [], none),
  (676, 2, .iload 4, 4, 0, .null, [], none),
  (678, 1, .iconst 2, 0, 0, .int 2, [], none),
  (679, 1, .iadd, 0, 0, .null, [], none),
  (680, 1, .iaload, 0, 0, .null, [], none),
  (681, 1, .aload_n 0, 0, 0, .null, [], none),
  (682, 2, .iload 4, 4, 0, .null, [], none),
  (684, 1, .iconst 3, 0, 0, .int 3, [], none),
  (685, 1, .iadd, 0, 0, .null, [], none),
  (686, 1, .iaload, 0, 0, .null, [], none),
  (687, 1, .aload_n 3, 3, 0, .null, [], none),
  (688, 3, .invokestatic 117, 178, 5, .retAddr 6, [], none),
  (691, 2, .istore 5, 5, 0, .null, [], none),
  (693, 1, .aload_n 2, 2, 0, .null, [], none),
  (694, 1, .aload_n 0, 0, 0, .null, [], none),
  (695, 2, .iload 4, 4, 0, .null, [], none),
  (697, 1, .iconst 1, 0, 0, .int 1, [], none),
  (698, 1, .iadd, 0, 0, .null, [], none),
  (699, 1, .iaload, 0, 0, .null, [], none),
  (700, 1, .aload_n 0, 0, 0, .null, [], none),
  (701, 2, .iload 4, 4, 0, .null, [], none),
  (703, 1, .iconst 2, 0, 0, .int 2, [], none)] : List xr_E), xr_sd xm_P 186 e := by
  have hc : xp_cd xm_P 186 = code := rfl
  have ho : xp_own xm_P 186 = "ExchangeTextLaw" := rfl
  have hm : xp_ml xm_P 186 = 8 := rfl
  exact xl_cons (xk_iload hc xd_186_648 rfl) <|
    xl_cons (xk_ifCond hc xd_186_650 (by decide)) <|
    xl_cons (xk_aload_n hc xd_186_653 rfl) <|
    xl_cons (xk_iconst hc xd_186_654 (by decide)) <|
    xl_cons (xk_laload hc xd_186_655) <|
    xl_cons (xk_iload hc xd_186_656 rfl) <|
    xl_cons (xk_i2l hc xd_186_658) <|
    xl_cons (xk_lcmp hc xd_186_659) <|
    xl_cons (xk_ifCond hc xd_186_660 (by decide)) <|
    xl_cons (xk_iconst hc xd_186_663 (by decide)) <|
    xl_cons (xk_ireturn hc xd_186_664) <|
    xl_cons (xk_goto hc xd_186_665 (by decide)) <|
    xl_cons (xk_aload_n hc xd_186_668 rfl) <|
    xl_cons (xk_aload_n hc xd_186_669 rfl) <|
    xl_cons (xk_iload hc xd_186_670 rfl) <|
    xl_cons (xk_iconst hc xd_186_672 (by decide)) <|
    xl_cons (xk_iadd hc xd_186_673) <|
    xl_cons (xk_iaload hc xd_186_674) <|
    xl_cons (xk_aload_n hc xd_186_675 rfl) <|
    xl_cons (xk_iload hc xd_186_676 rfl) <|
    xl_cons (xk_iconst hc xd_186_678 (by decide)) <|
    xl_cons (xk_iadd hc xd_186_679) <|
    xl_cons (xk_iaload hc xd_186_680) <|
    xl_cons (xk_aload_n hc xd_186_681 rfl) <|
    xl_cons (xk_iload hc xd_186_682 rfl) <|
    xl_cons (xk_iconst hc xd_186_684 (by decide)) <|
    xl_cons (xk_iadd hc xd_186_685) <|
    xl_cons (xk_iaload hc xd_186_686) <|
    xl_cons (xk_aload_n hc xd_186_687 rfl) <|
    xl_cons (xk_callSX (Y := xm_y178) ho rfl (by decide) ⟨by decide, by decide⟩ xl_609 hc xd_186_688 (by decide) xm_nd178 xl_671 xl_672) <|
    xl_cons (xk_istore hc xd_186_691 hm rfl (by decide)) <|
    xl_cons (xk_aload_n hc xd_186_693 rfl) <|
    xl_cons (xk_aload_n hc xd_186_694 rfl) <|
    xl_cons (xk_iload hc xd_186_695 rfl) <|
    xl_cons (xk_iconst hc xd_186_697 (by decide)) <|
    xl_cons (xk_iadd hc xd_186_698) <|
    xl_cons (xk_iaload hc xd_186_699) <|
    xl_cons (xk_aload_n hc xd_186_700 rfl) <|
    xl_cons (xk_iload hc xd_186_701 rfl) <|
    xl_cons (xk_iconst hc xd_186_703 (by decide)) (xl_nil)
set_option maxRecDepth 100000 in
theorem xo_186_10 : ∀ e ∈ ([(704, 1, .iadd, 0, 0, .null, [], none),
  (705, 1, .iaload, 0, 0, .null, [], none),
  (706, 1, .aload_n 0, 0, 0, .null, [], none),
  (707, 2, .iload 4, 4, 0, .null, [], none),
  (709, 1, .iconst 3, 0, 0, .int 3, [], none),
  (710, 1, .iadd, 0, 0, .null, [], none),
  (711, 1, .iaload, 0, 0, .null, [], none),
  (712, 3, .invokevirtual 119, 74, 4, .retAddr 0, [], none),
  (715, 2, .istore 6, 6, 0, .null, [], none),
  (717, 1, .aload_n 2, 2, 0, .null, [], none),
  (718, 3, .invokevirtual 76, 31, 1, .retAddr 0, [], none),
  (721, 2, .iload 5, 5, 0, .null, [], none),
  (723, 3, .if_icmp .eq 5, 728, 0, .null, [], none),
  (726, 1, .iconst 0, 0, 0, .int 0, [], none),
  (727, 1, .ireturn, 0, 0, .null, [], none),
  (728, 2, .iload 5, 5, 0, .null, [], none),
  (730, 3, .ifCond .ne 15, 745, 0, .null, [], none),
  (733, 1, .aload_n 3, 3, 0, .null, [], none),
  (734, 1, .iconst 0, 0, 0, .int 0, [], none),
  (735, 1, .laload, 0, 0, .null, [], none),
  (736, 2, .iload 6, 6, 0, .null, [], none),
  (738, 1, .i2l, 0, 0, .null, [], none),
  (739, 1, .lcmp, 0, 0, .null, [], none),
  (740, 3, .ifCond .eq 5, 745, 0, .null, [], none),
  (743, 1, .iconst 0, 0, 0, .int 0, [], none),
  (744, 1, .ireturn, 0, 0, .null, [], none),
  (745, 3, .goto 474, 1219, 0, .null, [], none),
  (748, 1, .aload_n 1, 1, 0, .null, [], none),
  (749, 1, .aload_n 0, 0, 0, .null, [], none),
  (750, 2, .iload 4, 4, 0, .null, [], none),
  (752, 1, .iconst 1, 0, 0, .int 1, [], none),
  (753, 1, .iadd, 0, 0, .null, [], none),
  (754, 1, .iaload, 0, 0, .null, [], none),
  (755, 1, .aload_n 0, 0, 0, .null, [], none),
  (756, 2, .iload 4, 4, 0, .null, [], none),
  (758, 1, .iconst 2, 0, 0, .int 2, [], none),
  (759, 1, .iadd, 0, 0, .null, [], none),
  (760, 1, .iaload, 0, 0, .null, [], none),
  (761, 1, .aload_n 3, 3, 0, .null, [], none),
  (762, 3, .invokestatic 120, 179, 4, .retAddr 6, [], none)] : List xr_E), xr_sd xm_P 186 e := by
  have hc : xp_cd xm_P 186 = code := rfl
  have ho : xp_own xm_P 186 = "ExchangeTextLaw" := rfl
  have hm : xp_ml xm_P 186 = 8 := rfl
  exact xl_cons (xk_iadd hc xd_186_704) <|
    xl_cons (xk_iaload hc xd_186_705) <|
    xl_cons (xk_aload_n hc xd_186_706 rfl) <|
    xl_cons (xk_iload hc xd_186_707 rfl) <|
    xl_cons (xk_iconst hc xd_186_709 (by decide)) <|
    xl_cons (xk_iadd hc xd_186_710) <|
    xl_cons (xk_iaload hc xd_186_711) <|
    xl_cons (xk_callV (Y := xm_y74) ho rfl (by decide) ⟨by decide, by decide⟩ xl_202 hc xd_186_712 rfl (b' := 3) rfl xm_nd74 (T := xm_T9) (N := 25) rfl xl_673 xl_674 xl_675) <|
    xl_cons (xk_istore hc xd_186_715 hm rfl (by decide)) <|
    xl_cons (xk_aload_n hc xd_186_717 rfl) <|
    xl_cons (xk_callV (Y := xm_y31) ho rfl (by decide) ⟨by decide, by decide⟩ xl_202 hc xd_186_718 rfl (b' := 0) rfl xm_nd31 (T := xm_T9) (N := 25) rfl xl_614 xl_615 xl_616) <|
    xl_cons (xk_iload hc xd_186_721 rfl) <|
    xl_cons (xk_if_icmp hc xd_186_723 (by decide)) <|
    xl_cons (xk_iconst hc xd_186_726 (by decide)) <|
    xl_cons (xk_ireturn hc xd_186_727) <|
    xl_cons (xk_iload hc xd_186_728 rfl) <|
    xl_cons (xk_ifCond hc xd_186_730 (by decide)) <|
    xl_cons (xk_aload_n hc xd_186_733 rfl) <|
    xl_cons (xk_iconst hc xd_186_734 (by decide)) <|
    xl_cons (xk_laload hc xd_186_735) <|
    xl_cons (xk_iload hc xd_186_736 rfl) <|
    xl_cons (xk_i2l hc xd_186_738) <|
    xl_cons (xk_lcmp hc xd_186_739) <|
    xl_cons (xk_ifCond hc xd_186_740 (by decide)) <|
    xl_cons (xk_iconst hc xd_186_743 (by decide)) <|
    xl_cons (xk_ireturn hc xd_186_744) <|
    xl_cons (xk_goto hc xd_186_745 (by decide)) <|
    xl_cons (xk_aload_n hc xd_186_748 rfl) <|
    xl_cons (xk_aload_n hc xd_186_749 rfl) <|
    xl_cons (xk_iload hc xd_186_750 rfl) <|
    xl_cons (xk_iconst hc xd_186_752 (by decide)) <|
    xl_cons (xk_iadd hc xd_186_753) <|
    xl_cons (xk_iaload hc xd_186_754) <|
    xl_cons (xk_aload_n hc xd_186_755 rfl) <|
    xl_cons (xk_iload hc xd_186_756 rfl) <|
    xl_cons (xk_iconst hc xd_186_758 (by decide)) <|
    xl_cons (xk_iadd hc xd_186_759) <|
    xl_cons (xk_iaload hc xd_186_760) <|
    xl_cons (xk_aload_n hc xd_186_761 rfl) <|
    xl_cons (xk_callSX (Y := xm_y179) ho rfl (by decide) ⟨by decide, by decide⟩ xl_609 hc xd_186_762 (by decide) xm_nd179 xl_676 xl_677) (xl_nil)
set_option maxRecDepth 100000 in
theorem xo_186_11 : ∀ e ∈ ([(765, 2, .istore 5, 5, 0, .null, [], none),
  (767, 1, .aload_n 2, 2, 0, .null, [], none),
  (768, 1, .aload_n 0, 0, 0, .null, [], none),
  (769, 2, .iload 4, 4, 0, .null, [], none),
  (771, 1, .iconst 1, 0, 0, .int 1, [], none),
  (772, 1, .iadd, 0, 0, .null, [], none),
  (773, 1, .iaload, 0, 0, .null, [], none),
  (774, 1, .aload_n 0, 0, 0, .null, [], none),
  (775, 2, .iload 4, 4, 0, .null, [], none),
  (777, 1, .iconst 2, 0, 0, .int 2, [], none),
  (778, 1, .iadd, 0, 0, .null, [], none),
  (779, 1, .iaload, 0, 0, .null, [], none),
  (780, 3, .invokevirtual 122, 76, 3, .retAddr 0, [], none),
  (783, 2, .istore 6, 6, 0, .null, [], none),
  (785, 1, .aload_n 2, 2, 0, .null, [], none),
  (786, 3, .invokevirtual 76, 31, 1, .retAddr 0, [], none),
  (789, 2, .iload 5, 5, 0, .null, [], none),
  (791, 3, .if_icmp .eq 5, 796, 0, .null, [], none),
  (794, 1, .iconst 0, 0, 0, .int 0, [], none),
  (795, 1, .ireturn, 0, 0, .null, [], none),
  (796, 2, .iload 5, 5, 0, .null, [], none),
  (798, 3, .ifCond .ne 15, 813, 0, .null, [], none),
  (801, 1, .aload_n 3, 3, 0, .null, [], none),
  (802, 1, .iconst 0, 0, 0, .int 0, [], none),
  (803, 1, .laload, 0, 0, .null, [], none),
  (804, 2, .iload 6, 6, 0, .null, [], none),
  (806, 1, .i2l, 0, 0, .null, [], none),
  (807, 1, .lcmp, 0, 0, .null, [], none),
  (808, 3, .ifCond .eq 5, 813, 0, .null, [], none),
  (811, 1, .iconst 0, 0, 0, .int 0, [], none),
  (812, 1, .ireturn, 0, 0, .null, [], none),
  (813, 3, .goto 406, 1219, 0, .null, [], none),
  (816, 1, .aload_n 1, 1, 0, .null, [], none),
  (817, 1, .aload_n 0, 0, 0, .null, [], none),
  (818, 2, .iload 4, 4, 0, .null, [], none),
  (820, 1, .iconst 1, 0, 0, .int 1, [], none),
  (821, 1, .iadd, 0, 0, .null, [], none),
  (822, 1, .iaload, 0, 0, .null, [], none),
  (823, 1, .aload_n 0, 0, 0, .null, [], none),
  (824, 2, .iload 4, 4, 0, .null, [], none)] : List xr_E), xr_sd xm_P 186 e := by
  have hc : xp_cd xm_P 186 = code := rfl
  have ho : xp_own xm_P 186 = "ExchangeTextLaw" := rfl
  have hm : xp_ml xm_P 186 = 8 := rfl
  exact xl_cons (xk_istore hc xd_186_765 hm rfl (by decide)) <|
    xl_cons (xk_aload_n hc xd_186_767 rfl) <|
    xl_cons (xk_aload_n hc xd_186_768 rfl) <|
    xl_cons (xk_iload hc xd_186_769 rfl) <|
    xl_cons (xk_iconst hc xd_186_771 (by decide)) <|
    xl_cons (xk_iadd hc xd_186_772) <|
    xl_cons (xk_iaload hc xd_186_773) <|
    xl_cons (xk_aload_n hc xd_186_774 rfl) <|
    xl_cons (xk_iload hc xd_186_775 rfl) <|
    xl_cons (xk_iconst hc xd_186_777 (by decide)) <|
    xl_cons (xk_iadd hc xd_186_778) <|
    xl_cons (xk_iaload hc xd_186_779) <|
    xl_cons (xk_callV (Y := xm_y76) ho rfl (by decide) ⟨by decide, by decide⟩ xl_202 hc xd_186_780 rfl (b' := 2) rfl xm_nd76 (T := xm_T9) (N := 25) rfl xl_678 xl_679 xl_680) <|
    xl_cons (xk_istore hc xd_186_783 hm rfl (by decide)) <|
    xl_cons (xk_aload_n hc xd_186_785 rfl) <|
    xl_cons (xk_callV (Y := xm_y31) ho rfl (by decide) ⟨by decide, by decide⟩ xl_202 hc xd_186_786 rfl (b' := 0) rfl xm_nd31 (T := xm_T9) (N := 25) rfl xl_614 xl_615 xl_616) <|
    xl_cons (xk_iload hc xd_186_789 rfl) <|
    xl_cons (xk_if_icmp hc xd_186_791 (by decide)) <|
    xl_cons (xk_iconst hc xd_186_794 (by decide)) <|
    xl_cons (xk_ireturn hc xd_186_795) <|
    xl_cons (xk_iload hc xd_186_796 rfl) <|
    xl_cons (xk_ifCond hc xd_186_798 (by decide)) <|
    xl_cons (xk_aload_n hc xd_186_801 rfl) <|
    xl_cons (xk_iconst hc xd_186_802 (by decide)) <|
    xl_cons (xk_laload hc xd_186_803) <|
    xl_cons (xk_iload hc xd_186_804 rfl) <|
    xl_cons (xk_i2l hc xd_186_806) <|
    xl_cons (xk_lcmp hc xd_186_807) <|
    xl_cons (xk_ifCond hc xd_186_808 (by decide)) <|
    xl_cons (xk_iconst hc xd_186_811 (by decide)) <|
    xl_cons (xk_ireturn hc xd_186_812) <|
    xl_cons (xk_goto hc xd_186_813 (by decide)) <|
    xl_cons (xk_aload_n hc xd_186_816 rfl) <|
    xl_cons (xk_aload_n hc xd_186_817 rfl) <|
    xl_cons (xk_iload hc xd_186_818 rfl) <|
    xl_cons (xk_iconst hc xd_186_820 (by decide)) <|
    xl_cons (xk_iadd hc xd_186_821) <|
    xl_cons (xk_iaload hc xd_186_822) <|
    xl_cons (xk_aload_n hc xd_186_823 rfl) <|
    xl_cons (xk_iload hc xd_186_824 rfl) (xl_nil)
set_option maxRecDepth 100000 in
theorem xo_186_12 : ∀ e ∈ ([(826, 1, .iconst 2, 0, 0, .int 2, [], none),
  (827, 1, .iadd, 0, 0, .null, [], none),
  (828, 1, .iaload, 0, 0, .null, [], none),
  (829, 1, .aload_n 3, 3, 0, .null, [], none),
  (830, 3, .invokestatic 123, 180, 4, .retAddr 6, [], none),
  (833, 2, .istore 5, 5, 0, .null, [], none),
  (835, 1, .aload_n 2, 2, 0, .null, [], none),
  (836, 1, .aload_n 0, 0, 0, .null, [], none),
  (837, 2, .iload 4, 4, 0, .null, [], none),
  (839, 1, .iconst 1, 0, 0, .int 1, [], none),
  (840, 1, .iadd, 0, 0, .null, [], none),
  (841, 1, .iaload, 0, 0, .null, [], none),
  (842, 1, .aload_n 0, 0, 0, .null, [], none),
  (843, 2, .iload 4, 4, 0, .null, [], none),
  (845, 1, .iconst 2, 0, 0, .int 2, [], none),
  (846, 1, .iadd, 0, 0, .null, [], none),
  (847, 1, .iaload, 0, 0, .null, [], none),
  (848, 3, .invokevirtual 125, 77, 3, .retAddr 0, [], none),
  (851, 2, .istore 6, 6, 0, .null, [], none),
  (853, 1, .aload_n 2, 2, 0, .null, [], none),
  (854, 3, .invokevirtual 76, 31, 1, .retAddr 0, [], none),
  (857, 2, .iload 5, 5, 0, .null, [], none),
  (859, 3, .if_icmp .eq 5, 864, 0, .null, [], none),
  (862, 1, .iconst 0, 0, 0, .int 0, [], none),
  (863, 1, .ireturn, 0, 0, .null, [], none),
  (864, 2, .iload 5, 5, 0, .null, [], none),
  (866, 3, .ifCond .ne 15, 881, 0, .null, [], none),
  (869, 1, .aload_n 3, 3, 0, .null, [], none),
  (870, 1, .iconst 0, 0, 0, .int 0, [], none),
  (871, 1, .laload, 0, 0, .null, [], none),
  (872, 2, .iload 6, 6, 0, .null, [], none),
  (874, 1, .i2l, 0, 0, .null, [], none),
  (875, 1, .lcmp, 0, 0, .null, [], none),
  (876, 3, .ifCond .eq 5, 881, 0, .null, [], none),
  (879, 1, .iconst 0, 0, 0, .int 0, [], none),
  (880, 1, .ireturn, 0, 0, .null, [], none),
  (881, 3, .goto 338, 1219, 0, .null, [], none),
  (884, 1, .aload_n 1, 1, 0, .null, [], none),
  (885, 1, .aload_n 0, 0, 0, .null, [], none),
  (886, 2, .iload 4, 4, 0, .null, [], none)] : List xr_E), xr_sd xm_P 186 e := by
  have hc : xp_cd xm_P 186 = code := rfl
  have ho : xp_own xm_P 186 = "ExchangeTextLaw" := rfl
  have hm : xp_ml xm_P 186 = 8 := rfl
  exact xl_cons (xk_iconst hc xd_186_826 (by decide)) <|
    xl_cons (xk_iadd hc xd_186_827) <|
    xl_cons (xk_iaload hc xd_186_828) <|
    xl_cons (xk_aload_n hc xd_186_829 rfl) <|
    xl_cons (xk_callSX (Y := xm_y180) ho rfl (by decide) ⟨by decide, by decide⟩ xl_609 hc xd_186_830 (by decide) xm_nd180 xl_681 xl_682) <|
    xl_cons (xk_istore hc xd_186_833 hm rfl (by decide)) <|
    xl_cons (xk_aload_n hc xd_186_835 rfl) <|
    xl_cons (xk_aload_n hc xd_186_836 rfl) <|
    xl_cons (xk_iload hc xd_186_837 rfl) <|
    xl_cons (xk_iconst hc xd_186_839 (by decide)) <|
    xl_cons (xk_iadd hc xd_186_840) <|
    xl_cons (xk_iaload hc xd_186_841) <|
    xl_cons (xk_aload_n hc xd_186_842 rfl) <|
    xl_cons (xk_iload hc xd_186_843 rfl) <|
    xl_cons (xk_iconst hc xd_186_845 (by decide)) <|
    xl_cons (xk_iadd hc xd_186_846) <|
    xl_cons (xk_iaload hc xd_186_847) <|
    xl_cons (xk_callV (Y := xm_y77) ho rfl (by decide) ⟨by decide, by decide⟩ xl_202 hc xd_186_848 rfl (b' := 2) rfl xm_nd77 (T := xm_T9) (N := 25) rfl xl_683 xl_684 xl_685) <|
    xl_cons (xk_istore hc xd_186_851 hm rfl (by decide)) <|
    xl_cons (xk_aload_n hc xd_186_853 rfl) <|
    xl_cons (xk_callV (Y := xm_y31) ho rfl (by decide) ⟨by decide, by decide⟩ xl_202 hc xd_186_854 rfl (b' := 0) rfl xm_nd31 (T := xm_T9) (N := 25) rfl xl_614 xl_615 xl_616) <|
    xl_cons (xk_iload hc xd_186_857 rfl) <|
    xl_cons (xk_if_icmp hc xd_186_859 (by decide)) <|
    xl_cons (xk_iconst hc xd_186_862 (by decide)) <|
    xl_cons (xk_ireturn hc xd_186_863) <|
    xl_cons (xk_iload hc xd_186_864 rfl) <|
    xl_cons (xk_ifCond hc xd_186_866 (by decide)) <|
    xl_cons (xk_aload_n hc xd_186_869 rfl) <|
    xl_cons (xk_iconst hc xd_186_870 (by decide)) <|
    xl_cons (xk_laload hc xd_186_871) <|
    xl_cons (xk_iload hc xd_186_872 rfl) <|
    xl_cons (xk_i2l hc xd_186_874) <|
    xl_cons (xk_lcmp hc xd_186_875) <|
    xl_cons (xk_ifCond hc xd_186_876 (by decide)) <|
    xl_cons (xk_iconst hc xd_186_879 (by decide)) <|
    xl_cons (xk_ireturn hc xd_186_880) <|
    xl_cons (xk_goto hc xd_186_881 (by decide)) <|
    xl_cons (xk_aload_n hc xd_186_884 rfl) <|
    xl_cons (xk_aload_n hc xd_186_885 rfl) <|
    xl_cons (xk_iload hc xd_186_886 rfl) (xl_nil)
set_option maxRecDepth 100000 in
theorem xo_186_13 : ∀ e ∈ ([(888, 1, .iconst 1, 0, 0, .int 1, [], none),
  (889, 1, .iadd, 0, 0, .null, [], none),
  (890, 1, .iaload, 0, 0, .null, [], none),
  (891, 1, .aload_n 3, 3, 0, .null, [], none),
  (892, 3, .invokestatic 126, 181, 3, .retAddr 6, [], none),
  (895, 2, .istore 5, 5, 0, .null, [], none),
  (897, 1, .aload_n 2, 2, 0, .null, [], none),
  (898, 1, .aload_n 0, 0, 0, .null, [], none),
  (899, 2, .iload 4, 4, 0, .null, [], none),
  (901, 1, .iconst 1, 0, 0, .int 1, [], none),
  (902, 1, .iadd, 0, 0, .null, [], none),
  (903, 1, .iaload, 0, 0, .null, [], none),
  (904, 3, .invokevirtual 128, 79, 2, .retAddr 0, [], none),
  (907, 2, .istore 6, 6, 0, .null, [], none),
  (909, 1, .aload_n 2, 2, 0, .null, [], none),
  (910, 3, .invokevirtual 76, 31, 1, .retAddr 0, [], none),
  (913, 2, .iload 5, 5, 0, .null, [], none),
  (915, 3, .if_icmp .eq 5, 920, 0, .null, [], none),
  (918, 1, .iconst 0, 0, 0, .int 0, [], none),
  (919, 1, .ireturn, 0, 0, .null, [], none),
  (920, 2, .iload 5, 5, 0, .null, [], none),
  (922, 3, .ifCond .ne 15, 937, 0, .null, [], none),
  (925, 1, .aload_n 3, 3, 0, .null, [], none),
  (926, 1, .iconst 0, 0, 0, .int 0, [], none),
  (927, 1, .laload, 0, 0, .null, [], none),
  (928, 2, .iload 6, 6, 0, .null, [], none),
  (930, 1, .i2l, 0, 0, .null, [], none),
  (931, 1, .lcmp, 0, 0, .null, [], none),
  (932, 3, .ifCond .eq 5, 937, 0, .null, [], none),
  (935, 1, .iconst 0, 0, 0, .int 0, [], none),
  (936, 1, .ireturn, 0, 0, .null, [], none),
  (937, 3, .goto 282, 1219, 0, .null, [], none),
  (940, 1, .aload_n 1, 1, 0, .null, [], none),
  (941, 1, .aload_n 0, 0, 0, .null, [], none),
  (942, 2, .iload 4, 4, 0, .null, [], none),
  (944, 1, .iconst 1, 0, 0, .int 1, [], none),
  (945, 1, .iadd, 0, 0, .null, [], none),
  (946, 1, .iaload, 0, 0, .null, [], none),
  (947, 1, .aload_n 0, 0, 0, .null, [], none),
  (948, 2, .iload 4, 4, 0, .null, [], none)] : List xr_E), xr_sd xm_P 186 e := by
  have hc : xp_cd xm_P 186 = code := rfl
  have ho : xp_own xm_P 186 = "ExchangeTextLaw" := rfl
  have hm : xp_ml xm_P 186 = 8 := rfl
  exact xl_cons (xk_iconst hc xd_186_888 (by decide)) <|
    xl_cons (xk_iadd hc xd_186_889) <|
    xl_cons (xk_iaload hc xd_186_890) <|
    xl_cons (xk_aload_n hc xd_186_891 rfl) <|
    xl_cons (xk_callSX (Y := xm_y181) ho rfl (by decide) ⟨by decide, by decide⟩ xl_609 hc xd_186_892 (by decide) xm_nd181 xl_686 xl_687) <|
    xl_cons (xk_istore hc xd_186_895 hm rfl (by decide)) <|
    xl_cons (xk_aload_n hc xd_186_897 rfl) <|
    xl_cons (xk_aload_n hc xd_186_898 rfl) <|
    xl_cons (xk_iload hc xd_186_899 rfl) <|
    xl_cons (xk_iconst hc xd_186_901 (by decide)) <|
    xl_cons (xk_iadd hc xd_186_902) <|
    xl_cons (xk_iaload hc xd_186_903) <|
    xl_cons (xk_callV (Y := xm_y79) ho rfl (by decide) ⟨by decide, by decide⟩ xl_202 hc xd_186_904 rfl (b' := 1) rfl xm_nd79 (T := xm_T9) (N := 25) rfl xl_688 xl_689 xl_690) <|
    xl_cons (xk_istore hc xd_186_907 hm rfl (by decide)) <|
    xl_cons (xk_aload_n hc xd_186_909 rfl) <|
    xl_cons (xk_callV (Y := xm_y31) ho rfl (by decide) ⟨by decide, by decide⟩ xl_202 hc xd_186_910 rfl (b' := 0) rfl xm_nd31 (T := xm_T9) (N := 25) rfl xl_614 xl_615 xl_616) <|
    xl_cons (xk_iload hc xd_186_913 rfl) <|
    xl_cons (xk_if_icmp hc xd_186_915 (by decide)) <|
    xl_cons (xk_iconst hc xd_186_918 (by decide)) <|
    xl_cons (xk_ireturn hc xd_186_919) <|
    xl_cons (xk_iload hc xd_186_920 rfl) <|
    xl_cons (xk_ifCond hc xd_186_922 (by decide)) <|
    xl_cons (xk_aload_n hc xd_186_925 rfl) <|
    xl_cons (xk_iconst hc xd_186_926 (by decide)) <|
    xl_cons (xk_laload hc xd_186_927) <|
    xl_cons (xk_iload hc xd_186_928 rfl) <|
    xl_cons (xk_i2l hc xd_186_930) <|
    xl_cons (xk_lcmp hc xd_186_931) <|
    xl_cons (xk_ifCond hc xd_186_932 (by decide)) <|
    xl_cons (xk_iconst hc xd_186_935 (by decide)) <|
    xl_cons (xk_ireturn hc xd_186_936) <|
    xl_cons (xk_goto hc xd_186_937 (by decide)) <|
    xl_cons (xk_aload_n hc xd_186_940 rfl) <|
    xl_cons (xk_aload_n hc xd_186_941 rfl) <|
    xl_cons (xk_iload hc xd_186_942 rfl) <|
    xl_cons (xk_iconst hc xd_186_944 (by decide)) <|
    xl_cons (xk_iadd hc xd_186_945) <|
    xl_cons (xk_iaload hc xd_186_946) <|
    xl_cons (xk_aload_n hc xd_186_947 rfl) <|
    xl_cons (xk_iload hc xd_186_948 rfl) (xl_nil)
set_option maxRecDepth 100000 in
theorem xo_186_14 : ∀ e ∈ ([(950, 1, .iconst 2, 0, 0, .int 2, [], none),
  (951, 1, .iadd, 0, 0, .null, [], none),
  (952, 1, .iaload, 0, 0, .null, [], none),
  (953, 1, .aload_n 3, 3, 0, .null, [], none),
  (954, 3, .invokestatic 129, 182, 4, .retAddr 6, [], none),
  (957, 2, .istore 5, 5, 0, .null, [], none),
  (959, 1, .aload_n 2, 2, 0, .null, [], none),
  (960, 1, .aload_n 0, 0, 0, .null, [], none),
  (961, 2, .iload 4, 4, 0, .null, [], none),
  (963, 1, .iconst 1, 0, 0, .int 1, [], none),
  (964, 1, .iadd, 0, 0, .null, [], none),
  (965, 1, .iaload, 0, 0, .null, [], none),
  (966, 1, .aload_n 0, 0, 0, .null, [], none),
  (967, 2, .iload 4, 4, 0, .null, [], none),
  (969, 1, .iconst 2, 0, 0, .int 2, [], none),
  (970, 1, .iadd, 0, 0, .null, [], none),
  (971, 1, .iaload, 0, 0, .null, [], none),
  (972, 3, .invokevirtual 131, 81, 3, .retAddr 0, [], none),
  (975, 2, .lstore 6, 6, 0, .null, [], none),
  (977, 1, .aload_n 2, 2, 0, .null, [], none),
  (978, 3, .invokevirtual 76, 31, 1, .retAddr 0, [], none),
  (981, 2, .iload 5, 5, 0, .null, [], none),
  (983, 3, .if_icmp .eq 5, 988, 0, .null, [], none),
  (986, 1, .iconst 0, 0, 0, .int 0, [], none),
  (987, 1, .ireturn, 0, 0, .null, [], none),
  (988, 2, .iload 5, 5, 0, .null, [], none),
  (990, 3, .ifCond .ne 14, 1004, 0, .null, [], none),
  (993, 1, .aload_n 3, 3, 0, .null, [], none),
  (994, 1, .iconst 0, 0, 0, .int 0, [], none),
  (995, 1, .laload, 0, 0, .null, [], none),
  (996, 2, .lload 6, 6, 0, .null, [], none),
  (998, 1, .lcmp, 0, 0, .null, [], none),
  (999, 3, .ifCond .eq 5, 1004, 0, .null, [], none),
  (1002, 1, .iconst 0, 0, 0, .int 0, [], none),
  (1003, 1, .ireturn, 0, 0, .null, [], none),
  (1004, 3, .goto 215, 1219, 0, .null, [], none),
  (1007, 1, .aload_n 1, 1, 0, .null, [], none),
  (1008, 1, .aload_n 0, 0, 0, .null, [], none),
  (1009, 2, .iload 4, 4, 0, .null, [], none),
  (1011, 1, .iconst 1, 0, 0, .int 1, [], none)] : List xr_E), xr_sd xm_P 186 e := by
  have hc : xp_cd xm_P 186 = code := rfl
  have ho : xp_own xm_P 186 = "ExchangeTextLaw" := rfl
  have hm : xp_ml xm_P 186 = 8 := rfl
  exact xl_cons (xk_iconst hc xd_186_950 (by decide)) <|
    xl_cons (xk_iadd hc xd_186_951) <|
    xl_cons (xk_iaload hc xd_186_952) <|
    xl_cons (xk_aload_n hc xd_186_953 rfl) <|
    xl_cons (xk_callSX (Y := xm_y182) ho rfl (by decide) ⟨by decide, by decide⟩ xl_609 hc xd_186_954 (by decide) xm_nd182 xl_691 xl_692) <|
    xl_cons (xk_istore hc xd_186_957 hm rfl (by decide)) <|
    xl_cons (xk_aload_n hc xd_186_959 rfl) <|
    xl_cons (xk_aload_n hc xd_186_960 rfl) <|
    xl_cons (xk_iload hc xd_186_961 rfl) <|
    xl_cons (xk_iconst hc xd_186_963 (by decide)) <|
    xl_cons (xk_iadd hc xd_186_964) <|
    xl_cons (xk_iaload hc xd_186_965) <|
    xl_cons (xk_aload_n hc xd_186_966 rfl) <|
    xl_cons (xk_iload hc xd_186_967 rfl) <|
    xl_cons (xk_iconst hc xd_186_969 (by decide)) <|
    xl_cons (xk_iadd hc xd_186_970) <|
    xl_cons (xk_iaload hc xd_186_971) <|
    xl_cons (xk_callV (Y := xm_y81) ho rfl (by decide) ⟨by decide, by decide⟩ xl_202 hc xd_186_972 rfl (b' := 2) rfl xm_nd81 (T := xm_T9) (N := 25) rfl xl_693 xl_694 xl_695) <|
    xl_cons (xk_lstore hc xd_186_975 hm rfl (by decide)) <|
    xl_cons (xk_aload_n hc xd_186_977 rfl) <|
    xl_cons (xk_callV (Y := xm_y31) ho rfl (by decide) ⟨by decide, by decide⟩ xl_202 hc xd_186_978 rfl (b' := 0) rfl xm_nd31 (T := xm_T9) (N := 25) rfl xl_614 xl_615 xl_616) <|
    xl_cons (xk_iload hc xd_186_981 rfl) <|
    xl_cons (xk_if_icmp hc xd_186_983 (by decide)) <|
    xl_cons (xk_iconst hc xd_186_986 (by decide)) <|
    xl_cons (xk_ireturn hc xd_186_987) <|
    xl_cons (xk_iload hc xd_186_988 rfl) <|
    xl_cons (xk_ifCond hc xd_186_990 (by decide)) <|
    xl_cons (xk_aload_n hc xd_186_993 rfl) <|
    xl_cons (xk_iconst hc xd_186_994 (by decide)) <|
    xl_cons (xk_laload hc xd_186_995) <|
    xl_cons (xk_lload hc xd_186_996 rfl) <|
    xl_cons (xk_lcmp hc xd_186_998) <|
    xl_cons (xk_ifCond hc xd_186_999 (by decide)) <|
    xl_cons (xk_iconst hc xd_186_1002 (by decide)) <|
    xl_cons (xk_ireturn hc xd_186_1003) <|
    xl_cons (xk_goto hc xd_186_1004 (by decide)) <|
    xl_cons (xk_aload_n hc xd_186_1007 rfl) <|
    xl_cons (xk_aload_n hc xd_186_1008 rfl) <|
    xl_cons (xk_iload hc xd_186_1009 rfl) <|
    xl_cons (xk_iconst hc xd_186_1011 (by decide)) (xl_nil)
set_option maxRecDepth 100000 in
theorem xo_186_15 : ∀ e ∈ ([(1012, 1, .iadd, 0, 0, .null, [], none),
  (1013, 1, .iaload, 0, 0, .null, [], none),
  (1014, 1, .aload_n 0, 0, 0, .null, [], none),
  (1015, 2, .iload 4, 4, 0, .null, [], none),
  (1017, 1, .iconst 2, 0, 0, .int 2, [], none),
  (1018, 1, .iadd, 0, 0, .null, [], none),
  (1019, 1, .iaload, 0, 0, .null, [], none),
  (1020, 1, .aload_n 3, 3, 0, .null, [], none),
  (1021, 3, .invokestatic 132, 183, 4, .retAddr 6, [], none),
  (1024, 2, .istore 5, 5, 0, .null, [], none),
  (1026, 1, .aload_n 2, 2, 0, .null, [], none),
  (1027, 1, .aload_n 0, 0, 0, .null, [], none),
  (1028, 2, .iload 4, 4, 0, .null, [], none),
  (1030, 1, .iconst 1, 0, 0, .int 1, [], none),
  (1031, 1, .iadd, 0, 0, .null, [], none),
  (1032, 1, .iaload, 0, 0, .null, [], none),
  (1033, 1, .aload_n 0, 0, 0, .null, [], none),
  (1034, 2, .iload 4, 4, 0, .null, [], none),
  (1036, 1, .iconst 2, 0, 0, .int 2, [], none),
  (1037, 1, .iadd, 0, 0, .null, [], none),
  (1038, 1, .iaload, 0, 0, .null, [], none),
  (1039, 3, .invokevirtual 134, 85, 3, .retAddr 0, [], none),
  (1042, 2, .istore 6, 6, 0, .null, [], none),
  (1044, 1, .aload_n 2, 2, 0, .null, [], none),
  (1045, 3, .invokevirtual 76, 31, 1, .retAddr 0, [], none),
  (1048, 2, .iload 5, 5, 0, .null, [], none),
  (1050, 3, .if_icmp .eq 5, 1055, 0, .null, [], none),
  (1053, 1, .iconst 0, 0, 0, .int 0, [], none),
  (1054, 1, .ireturn, 0, 0, .null, [], none),
  (1055, 2, .iload 5, 5, 0, .null, [], none),
  (1057, 3, .ifCond .ne 22, 1079, 0, .null, [], none),
  (1060, 1, .aload_n 3, 3, 0, .null, [], none),
  (1061, 1, .iconst 0, 0, 0, .int 0, [], none),
  (1062, 1, .laload, 0, 0, .null, [], none),
  (1063, 2, .iload 6, 6, 0, .null, [], none),
  (1065, 3, .ifCond .eq 7, 1072, 0, .null, [], none),
  (1068, 1, .lconst 1, 0, 0, .long 1, [], none),
  (1069, 3, .goto 4, 1073, 0, .null, [], none),
  (1072, 1, .lconst 0, 0, 0, .long 0, [], none),
  (1073, 1, .lcmp, 0, 0, .null, [], none)] : List xr_E), xr_sd xm_P 186 e := by
  have hc : xp_cd xm_P 186 = code := rfl
  have ho : xp_own xm_P 186 = "ExchangeTextLaw" := rfl
  have hm : xp_ml xm_P 186 = 8 := rfl
  exact xl_cons (xk_iadd hc xd_186_1012) <|
    xl_cons (xk_iaload hc xd_186_1013) <|
    xl_cons (xk_aload_n hc xd_186_1014 rfl) <|
    xl_cons (xk_iload hc xd_186_1015 rfl) <|
    xl_cons (xk_iconst hc xd_186_1017 (by decide)) <|
    xl_cons (xk_iadd hc xd_186_1018) <|
    xl_cons (xk_iaload hc xd_186_1019) <|
    xl_cons (xk_aload_n hc xd_186_1020 rfl) <|
    xl_cons (xk_callSX (Y := xm_y183) ho rfl (by decide) ⟨by decide, by decide⟩ xl_609 hc xd_186_1021 (by decide) xm_nd183 xl_696 xl_697) <|
    xl_cons (xk_istore hc xd_186_1024 hm rfl (by decide)) <|
    xl_cons (xk_aload_n hc xd_186_1026 rfl) <|
    xl_cons (xk_aload_n hc xd_186_1027 rfl) <|
    xl_cons (xk_iload hc xd_186_1028 rfl) <|
    xl_cons (xk_iconst hc xd_186_1030 (by decide)) <|
    xl_cons (xk_iadd hc xd_186_1031) <|
    xl_cons (xk_iaload hc xd_186_1032) <|
    xl_cons (xk_aload_n hc xd_186_1033 rfl) <|
    xl_cons (xk_iload hc xd_186_1034 rfl) <|
    xl_cons (xk_iconst hc xd_186_1036 (by decide)) <|
    xl_cons (xk_iadd hc xd_186_1037) <|
    xl_cons (xk_iaload hc xd_186_1038) <|
    xl_cons (xk_callV (Y := xm_y85) ho rfl (by decide) ⟨by decide, by decide⟩ xl_202 hc xd_186_1039 rfl (b' := 2) rfl xm_nd85 (T := xm_T9) (N := 25) rfl xl_698 xl_699 xl_700) <|
    xl_cons (xk_istore hc xd_186_1042 hm rfl (by decide)) <|
    xl_cons (xk_aload_n hc xd_186_1044 rfl) <|
    xl_cons (xk_callV (Y := xm_y31) ho rfl (by decide) ⟨by decide, by decide⟩ xl_202 hc xd_186_1045 rfl (b' := 0) rfl xm_nd31 (T := xm_T9) (N := 25) rfl xl_614 xl_615 xl_616) <|
    xl_cons (xk_iload hc xd_186_1048 rfl) <|
    xl_cons (xk_if_icmp hc xd_186_1050 (by decide)) <|
    xl_cons (xk_iconst hc xd_186_1053 (by decide)) <|
    xl_cons (xk_ireturn hc xd_186_1054) <|
    xl_cons (xk_iload hc xd_186_1055 rfl) <|
    xl_cons (xk_ifCond hc xd_186_1057 (by decide)) <|
    xl_cons (xk_aload_n hc xd_186_1060 rfl) <|
    xl_cons (xk_iconst hc xd_186_1061 (by decide)) <|
    xl_cons (xk_laload hc xd_186_1062) <|
    xl_cons (xk_iload hc xd_186_1063 rfl) <|
    xl_cons (xk_ifCond hc xd_186_1065 (by decide)) <|
    xl_cons (xk_lconst hc xd_186_1068 rfl) <|
    xl_cons (xk_goto hc xd_186_1069 (by decide)) <|
    xl_cons (xk_lconst hc xd_186_1072 rfl) <|
    xl_cons (xk_lcmp hc xd_186_1073) (xl_nil)
set_option maxRecDepth 100000 in
theorem xo_186_16 : ∀ e ∈ ([(1074, 3, .ifCond .eq 5, 1079, 0, .null, [], none),
  (1077, 1, .iconst 0, 0, 0, .int 0, [], none),
  (1078, 1, .ireturn, 0, 0, .null, [], none),
  (1079, 3, .goto 140, 1219, 0, .null, [], none),
  (1082, 1, .aload_n 1, 1, 0, .null, [], none),
  (1083, 3, .invokevirtual 135, 18, 1, .retAddr 0, [], none),
  (1086, 1, .aload_n 2, 2, 0, .null, [], none),
  (1087, 3, .invokevirtual 138, 86, 1, .retAddr 0, [], none),
  (1090, 3, .if_icmp .eq 129, 1219, 0, .null, [], none),
  (1093, 1, .iconst 0, 0, 0, .int 0, [], none),
  (1094, 1, .ireturn, 0, 0, .null, [], none),
  (1095, 1, .aload_n 1, 1, 0, .null, [], none),
  (1096, 1, .aload_n 0, 0, 0, .null, [], none),
  (1097, 2, .iload 4, 4, 0, .null, [], none),
  (1099, 1, .iconst 1, 0, 0, .int 1, [], none),
  (1100, 1, .iadd, 0, 0, .null, [], none),
  (1101, 1, .iaload, 0, 0, .null, [], none),
  (1102, 1, .aload_n 0, 0, 0, .null, [], none),
  (1103, 2, .iload 4, 4, 0, .null, [], none),
  (1105, 1, .iconst 2, 0, 0, .int 2, [], none),
  (1106, 1, .iadd, 0, 0, .null, [], none),
  (1107, 1, .iaload, 0, 0, .null, [], none),
  (1108, 1, .aload_n 3, 3, 0, .null, [], none),
  (1109, 3, .invokestatic 139, 184, 4, .retAddr 6, [], none),
  (1112, 2, .istore 5, 5, 0, .null, [], none),
  (1114, 1, .aload_n 2, 2, 0, .null, [], none),
  (1115, 1, .aload_n 0, 0, 0, .null, [], none),
  (1116, 2, .iload 4, 4, 0, .null, [], none),
  (1118, 1, .iconst 1, 0, 0, .int 1, [], none),
  (1119, 1, .iadd, 0, 0, .null, [], none),
  (1120, 1, .iaload, 0, 0, .null, [], none),
  (1121, 1, .aload_n 0, 0, 0, .null, [], none),
  (1122, 2, .iload 4, 4, 0, .null, [], none),
  (1124, 1, .iconst 2, 0, 0, .int 2, [], none),
  (1125, 1, .iadd, 0, 0, .null, [], none),
  (1126, 1, .iaload, 0, 0, .null, [], none),
  (1127, 3, .invokevirtual 141, 88, 3, .retAddr 0, [], none),
  (1130, 2, .istore 6, 6, 0, .null, [], none),
  (1132, 1, .aload_n 2, 2, 0, .null, [], none),
  (1133, 3, .invokevirtual 76, 31, 1, .retAddr 0, [], none)] : List xr_E), xr_sd xm_P 186 e := by
  have hc : xp_cd xm_P 186 = code := rfl
  have ho : xp_own xm_P 186 = "ExchangeTextLaw" := rfl
  have hm : xp_ml xm_P 186 = 8 := rfl
  exact xl_cons (xk_ifCond hc xd_186_1074 (by decide)) <|
    xl_cons (xk_iconst hc xd_186_1077 (by decide)) <|
    xl_cons (xk_ireturn hc xd_186_1078) <|
    xl_cons (xk_goto hc xd_186_1079 (by decide)) <|
    xl_cons (xk_aload_n hc xd_186_1082 rfl) <|
    xl_cons (xk_callV (Y := xm_y18) ho rfl (by decide) ⟨by decide, by decide⟩ xl_52 hc xd_186_1083 rfl (b' := 0) rfl xm_nd18 (T := xm_T0) (N := 11) rfl xl_701 xl_702 xl_703) <|
    xl_cons (xk_aload_n hc xd_186_1086 rfl) <|
    xl_cons (xk_callV (Y := xm_y86) ho rfl (by decide) ⟨by decide, by decide⟩ xl_202 hc xd_186_1087 rfl (b' := 0) rfl xm_nd86 (T := xm_T9) (N := 25) rfl xl_704 xl_705 xl_706) <|
    xl_cons (xk_if_icmp hc xd_186_1090 (by decide)) <|
    xl_cons (xk_iconst hc xd_186_1093 (by decide)) <|
    xl_cons (xk_ireturn hc xd_186_1094) <|
    xl_cons (xk_aload_n hc xd_186_1095 rfl) <|
    xl_cons (xk_aload_n hc xd_186_1096 rfl) <|
    xl_cons (xk_iload hc xd_186_1097 rfl) <|
    xl_cons (xk_iconst hc xd_186_1099 (by decide)) <|
    xl_cons (xk_iadd hc xd_186_1100) <|
    xl_cons (xk_iaload hc xd_186_1101) <|
    xl_cons (xk_aload_n hc xd_186_1102 rfl) <|
    xl_cons (xk_iload hc xd_186_1103 rfl) <|
    xl_cons (xk_iconst hc xd_186_1105 (by decide)) <|
    xl_cons (xk_iadd hc xd_186_1106) <|
    xl_cons (xk_iaload hc xd_186_1107) <|
    xl_cons (xk_aload_n hc xd_186_1108 rfl) <|
    xl_cons (xk_callSX (Y := xm_y184) ho rfl (by decide) ⟨by decide, by decide⟩ xl_609 hc xd_186_1109 (by decide) xm_nd184 xl_707 xl_708) <|
    xl_cons (xk_istore hc xd_186_1112 hm rfl (by decide)) <|
    xl_cons (xk_aload_n hc xd_186_1114 rfl) <|
    xl_cons (xk_aload_n hc xd_186_1115 rfl) <|
    xl_cons (xk_iload hc xd_186_1116 rfl) <|
    xl_cons (xk_iconst hc xd_186_1118 (by decide)) <|
    xl_cons (xk_iadd hc xd_186_1119) <|
    xl_cons (xk_iaload hc xd_186_1120) <|
    xl_cons (xk_aload_n hc xd_186_1121 rfl) <|
    xl_cons (xk_iload hc xd_186_1122 rfl) <|
    xl_cons (xk_iconst hc xd_186_1124 (by decide)) <|
    xl_cons (xk_iadd hc xd_186_1125) <|
    xl_cons (xk_iaload hc xd_186_1126) <|
    xl_cons (xk_callV (Y := xm_y88) ho rfl (by decide) ⟨by decide, by decide⟩ xl_202 hc xd_186_1127 rfl (b' := 2) rfl xm_nd88 (T := xm_T9) (N := 25) rfl xl_709 xl_710 xl_711) <|
    xl_cons (xk_istore hc xd_186_1130 hm rfl (by decide)) <|
    xl_cons (xk_aload_n hc xd_186_1132 rfl) <|
    xl_cons (xk_callV (Y := xm_y31) ho rfl (by decide) ⟨by decide, by decide⟩ xl_202 hc xd_186_1133 rfl (b' := 0) rfl xm_nd31 (T := xm_T9) (N := 25) rfl xl_614 xl_615 xl_616) (xl_nil)
set_option maxRecDepth 100000 in
theorem xo_186_17 : ∀ e ∈ ([(1136, 2, .iload 5, 5, 0, .null, [], none),
  (1138, 3, .if_icmp .eq 5, 1143, 0, .null, [], none),
  (1141, 1, .iconst 0, 0, 0, .int 0, [], none),
  (1142, 1, .ireturn, 0, 0, .null, [], none),
  (1143, 2, .iload 5, 5, 0, .null, [], none),
  (1145, 3, .ifCond .ne 15, 1160, 0, .null, [], none),
  (1148, 1, .aload_n 3, 3, 0, .null, [], none),
  (1149, 1, .iconst 0, 0, 0, .int 0, [], none),
  (1150, 1, .laload, 0, 0, .null, [], none),
  (1151, 2, .iload 6, 6, 0, .null, [], none),
  (1153, 1, .i2l, 0, 0, .null, [], none),
  (1154, 1, .lcmp, 0, 0, .null, [], none),
  (1155, 3, .ifCond .eq 5, 1160, 0, .null, [], none),
  (1158, 1, .iconst 0, 0, 0, .int 0, [], none),
  (1159, 1, .ireturn, 0, 0, .null, [], none),
  (1160, 3, .goto 59, 1219, 0, .null, [], none),
  (1163, 1, .aload_n 1, 1, 0, .null, [], none),
  (1164, 1, .aload_n 0, 0, 0, .null, [], none),
  (1165, 2, .iload 4, 4, 0, .null, [], none),
  (1167, 1, .iconst 1, 0, 0, .int 1, [], none),
  (1168, 1, .iadd, 0, 0, .null, [], none),
  (1169, 1, .iaload, 0, 0, .null, [], none),
  (1170, 1, .aload_n 3, 3, 0, .null, [], none),
  (1171, 3, .invokestatic 142, 185, 3, .retAddr 6, [], none),
  (1174, 2, .istore 5, 5, 0, .null, [], none),
  (1176, 1, .aload_n 2, 2, 0, .null, [], none),
  (1177, 1, .aload_n 0, 0, 0, .null, [], none),
  (1178, 2, .iload 4, 4, 0, .null, [], none),
  (1180, 1, .iconst 1, 0, 0, .int 1, [], none),
  (1181, 1, .iadd, 0, 0, .null, [], none),
  (1182, 1, .iaload, 0, 0, .null, [], none),
  (1183, 3, .invokevirtual 144, 89, 2, .retAddr 0, [], none),
  (1186, 2, .istore 6, 6, 0, .null, [], none),
  (1188, 1, .aload_n 2, 2, 0, .null, [], none),
  (1189, 3, .invokevirtual 76, 31, 1, .retAddr 0, [], none),
  (1192, 2, .iload 5, 5, 0, .null, [], none),
  (1194, 3, .if_icmp .eq 5, 1199, 0, .null, [], none),
  (1197, 1, .iconst 0, 0, 0, .int 0, [], none),
  (1198, 1, .ireturn, 0, 0, .null, [], none),
  (1199, 2, .iload 5, 5, 0, .null, [], none)] : List xr_E), xr_sd xm_P 186 e := by
  have hc : xp_cd xm_P 186 = code := rfl
  have ho : xp_own xm_P 186 = "ExchangeTextLaw" := rfl
  have hm : xp_ml xm_P 186 = 8 := rfl
  exact xl_cons (xk_iload hc xd_186_1136 rfl) <|
    xl_cons (xk_if_icmp hc xd_186_1138 (by decide)) <|
    xl_cons (xk_iconst hc xd_186_1141 (by decide)) <|
    xl_cons (xk_ireturn hc xd_186_1142) <|
    xl_cons (xk_iload hc xd_186_1143 rfl) <|
    xl_cons (xk_ifCond hc xd_186_1145 (by decide)) <|
    xl_cons (xk_aload_n hc xd_186_1148 rfl) <|
    xl_cons (xk_iconst hc xd_186_1149 (by decide)) <|
    xl_cons (xk_laload hc xd_186_1150) <|
    xl_cons (xk_iload hc xd_186_1151 rfl) <|
    xl_cons (xk_i2l hc xd_186_1153) <|
    xl_cons (xk_lcmp hc xd_186_1154) <|
    xl_cons (xk_ifCond hc xd_186_1155 (by decide)) <|
    xl_cons (xk_iconst hc xd_186_1158 (by decide)) <|
    xl_cons (xk_ireturn hc xd_186_1159) <|
    xl_cons (xk_goto hc xd_186_1160 (by decide)) <|
    xl_cons (xk_aload_n hc xd_186_1163 rfl) <|
    xl_cons (xk_aload_n hc xd_186_1164 rfl) <|
    xl_cons (xk_iload hc xd_186_1165 rfl) <|
    xl_cons (xk_iconst hc xd_186_1167 (by decide)) <|
    xl_cons (xk_iadd hc xd_186_1168) <|
    xl_cons (xk_iaload hc xd_186_1169) <|
    xl_cons (xk_aload_n hc xd_186_1170 rfl) <|
    xl_cons (xk_callSX (Y := xm_y185) ho rfl (by decide) ⟨by decide, by decide⟩ xl_609 hc xd_186_1171 (by decide) xm_nd185 xl_712 xl_713) <|
    xl_cons (xk_istore hc xd_186_1174 hm rfl (by decide)) <|
    xl_cons (xk_aload_n hc xd_186_1176 rfl) <|
    xl_cons (xk_aload_n hc xd_186_1177 rfl) <|
    xl_cons (xk_iload hc xd_186_1178 rfl) <|
    xl_cons (xk_iconst hc xd_186_1180 (by decide)) <|
    xl_cons (xk_iadd hc xd_186_1181) <|
    xl_cons (xk_iaload hc xd_186_1182) <|
    xl_cons (xk_callV (Y := xm_y89) ho rfl (by decide) ⟨by decide, by decide⟩ xl_202 hc xd_186_1183 rfl (b' := 1) rfl xm_nd89 (T := xm_T9) (N := 25) rfl xl_714 xl_715 xl_716) <|
    xl_cons (xk_istore hc xd_186_1186 hm rfl (by decide)) <|
    xl_cons (xk_aload_n hc xd_186_1188 rfl) <|
    xl_cons (xk_callV (Y := xm_y31) ho rfl (by decide) ⟨by decide, by decide⟩ xl_202 hc xd_186_1189 rfl (b' := 0) rfl xm_nd31 (T := xm_T9) (N := 25) rfl xl_614 xl_615 xl_616) <|
    xl_cons (xk_iload hc xd_186_1192 rfl) <|
    xl_cons (xk_if_icmp hc xd_186_1194 (by decide)) <|
    xl_cons (xk_iconst hc xd_186_1197 (by decide)) <|
    xl_cons (xk_ireturn hc xd_186_1198) <|
    xl_cons (xk_iload hc xd_186_1199 rfl) (xl_nil)
set_option maxRecDepth 100000 in
theorem xo_186_18 : ∀ e ∈ ([(1201, 3, .ifCond .ne 15, 1216, 0, .null, [], none),
  (1204, 1, .aload_n 3, 3, 0, .null, [], none),
  (1205, 1, .iconst 0, 0, 0, .int 0, [], none),
  (1206, 1, .laload, 0, 0, .null, [], none),
  (1207, 2, .iload 6, 6, 0, .null, [], none),
  (1209, 1, .i2l, 0, 0, .null, [], none),
  (1210, 1, .lcmp, 0, 0, .null, [], none),
  (1211, 3, .ifCond .eq 5, 1216, 0, .null, [], none),
  (1214, 1, .iconst 0, 0, 0, .int 0, [], none),
  (1215, 1, .ireturn, 0, 0, .null, [], none),
  (1216, 3, .goto 3, 1219, 0, .null, [], none),
  (1219, 3, .iinc 4 4, 4, 0, .int 4, [], none),
  (1222, 3, .goto (-1199), 23, 0, .null, [], none),
  (1225, 1, .iconst 1, 0, 0, .int 1, [], none),
  (1226, 1, .ireturn, 0, 0, .null, [], none)] : List xr_E), xr_sd xm_P 186 e := by
  have hc : xp_cd xm_P 186 = code := rfl
  have ho : xp_own xm_P 186 = "ExchangeTextLaw" := rfl
  have hm : xp_ml xm_P 186 = 8 := rfl
  exact xl_cons (xk_ifCond hc xd_186_1201 (by decide)) <|
    xl_cons (xk_aload_n hc xd_186_1204 rfl) <|
    xl_cons (xk_iconst hc xd_186_1205 (by decide)) <|
    xl_cons (xk_laload hc xd_186_1206) <|
    xl_cons (xk_iload hc xd_186_1207 rfl) <|
    xl_cons (xk_i2l hc xd_186_1209) <|
    xl_cons (xk_lcmp hc xd_186_1210) <|
    xl_cons (xk_ifCond hc xd_186_1211 (by decide)) <|
    xl_cons (xk_iconst hc xd_186_1214 (by decide)) <|
    xl_cons (xk_ireturn hc xd_186_1215) <|
    xl_cons (xk_goto hc xd_186_1216 (by decide)) <|
    xl_cons (xk_iinc hc xd_186_1219 hm rfl (by decide) (by decide)) <|
    xl_cons (xk_goto hc xd_186_1222 (by decide)) <|
    xl_cons (xk_iconst hc xd_186_1225 (by decide)) <|
    xl_cons (xk_ireturn hc xd_186_1226) (xl_nil)
theorem xo_186 : ∀ e ∈ xm_i186, xr_sd xm_P 186 e := xl_app xo_186_0 (xl_app xo_186_1 (xl_app xo_186_2 (xl_app xo_186_3 (xl_app xo_186_4 (xl_app xo_186_5 (xl_app xo_186_6 (xl_app xo_186_7 (xl_app xo_186_8 (xl_app xo_186_9 (xl_app xo_186_10 (xl_app xo_186_11 (xl_app xo_186_12 (xl_app xo_186_13 (xl_app xo_186_14 (xl_app xo_186_15 (xl_app xo_186_16 (xl_app xo_186_17 (xo_186_18))))))))))))))))))
