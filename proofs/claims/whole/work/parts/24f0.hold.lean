set_option maxRecDepth 100000 in
theorem xo_0_0 : ∀ e ∈ ([(0, 1, .aload_n 0, 0, 0, .null, [], none),
  (1, 3, .invokespecial 1, 0, 0, .int 1, [], none),
  (4, 1, .aload_n 0, 0, 0, .null, [], none),
  (5, 3, .new 7, 1, 0, .null, [], none),
  (8, 1, .dup, 0, 0, .null, [], none),
  (9, 3, .invokespecial 9, 140, 1, .retAddr 5, [], none),
  (12, 3, .putfield 10, 0, 0, .null, [], none),
  (15, 1, .aload_n 0, 0, 0, .null, [], none),
  (16, 3, .new 7, 1, 0, .null, [], none),
  (19, 1, .dup, 0, 0, .null, [], none),
  (20, 3, .invokespecial 9, 140, 1, .retAddr 5, [], none),
  (23, 3, .putfield 16, 0, 1, .null, [], none),
  (26, 1, .aload_n 0, 0, 0, .null, [], none),
  (27, 3, .new 19, 2, 0, .null, [], none),
  (30, 1, .dup, 0, 0, .null, [], none),
  (31, 3, .invokespecial 21, 102, 1, .retAddr 5, [], none),
  (34, 3, .putfield 22, 0, 2, .null, [], none),
  (37, 1, .aload_n 0, 0, 0, .null, [], none),
  (38, 3, .new 19, 2, 0, .null, [], none),
  (41, 1, .dup, 0, 0, .null, [], none),
  (42, 3, .invokespecial 21, 102, 1, .retAddr 5, [], none),
  (45, 3, .putfield 26, 0, 3, .null, [], none),
  (48, 1, .aload_n 0, 0, 0, .null, [], none),
  (49, 3, .new 29, 3, 0, .null, [], none),
  (52, 1, .dup, 0, 0, .null, [], none),
  (53, 3, .invokespecial 31, 111, 1, .retAddr 5, [], none),
  (56, 3, .putfield 32, 0, 4, .null, [], none),
  (59, 1, .aload_n 0, 0, 0, .null, [], none),
  (60, 3, .new 29, 3, 0, .null, [], none),
  (63, 1, .dup, 0, 0, .null, [], none),
  (64, 3, .invokespecial 31, 111, 1, .retAddr 5, [], none),
  (67, 3, .putfield 36, 0, 5, .null, [], none),
  (70, 1, .aload_n 0, 0, 0, .null, [], none),
  (71, 3, .new 29, 3, 0, .null, [], none),
  (74, 1, .dup, 0, 0, .null, [], none),
  (75, 3, .invokespecial 31, 111, 1, .retAddr 5, [], none),
  (78, 3, .putfield 39, 0, 6, .null, [], none),
  (81, 1, .aload_n 0, 0, 0, .null, [], none),
  (82, 3, .new 42, 4, 0, .null, [], none),
  (85, 1, .dup, 0, 0, .null, [], none)] : List xr_E), xr_sd xm_P 0 e := by
  have hc : xp_cd xm_P 0 = prog_1_method_1_code := rfl
  have ho : xp_own xm_P 0 = "ExchangeText" := rfl
  have hm : xp_ml xm_P 0 = 2 := rfl
  exact xl_cons (xk_aload_n hc xd_0_0 rfl) <|
    xl_cons (xk_objInit hc xd_0_1 ho xm_rl0 xl_0 xl_1 xl_2) <|
    xl_cons (xk_aload_n hc xd_0_4 rfl) <|
    xl_cons (xk_new (C := xm_C1) (T := xm_T1) (N := 3) (ty := xm_ty1) hc xd_0_5 ho rfl xm_u1 xm_tk1 rfl (fun _ => rfl) xm_df1 xl_3 xl_4 xl_5) <|
    xl_cons (xk_dup hc xd_0_8) <|
    xl_cons (xk_callIN (Y := xm_y140) ho rfl (by decide) ⟨by decide, by decide⟩ xl_5 hc xd_0_9 rfl rfl (b' := 0) rfl xm_nd140 rfl xz_9 xl_6) <|
    xl_cons (xk_putfieldF (C := xm_C0) (T := xm_T0) (N := 11) (ty := xm_ty0) hc xd_0_12 ho rfl (by decide) xm_u0 xm_tk0 rfl xm_nm0 xl_7 rfl rfl rfl) <|
    xl_cons (xk_aload_n hc xd_0_15 rfl) <|
    xl_cons (xk_new (C := xm_C1) (T := xm_T1) (N := 3) (ty := xm_ty1) hc xd_0_16 ho rfl xm_u1 xm_tk1 rfl (fun _ => rfl) xm_df1 xl_3 xl_4 xl_5) <|
    xl_cons (xk_dup hc xd_0_19) <|
    xl_cons (xk_callIN (Y := xm_y140) ho rfl (by decide) ⟨by decide, by decide⟩ xl_5 hc xd_0_20 rfl rfl (b' := 0) rfl xm_nd140 rfl xz_9 xl_6) <|
    xl_cons (xk_putfieldF (C := xm_C0) (T := xm_T0) (N := 11) (ty := xm_ty0) hc xd_0_23 ho rfl (by decide) xm_u0 xm_tk0 rfl xm_nm0 xl_8 rfl rfl rfl) <|
    xl_cons (xk_aload_n hc xd_0_26 rfl) <|
    xl_cons (xk_new (C := xm_C2) (T := xm_T2) (N := 5) (ty := xm_ty2) hc xd_0_27 ho rfl xm_u2 xm_tk2 rfl (fun _ => rfl) xm_df2 xl_9 xl_10 xl_11) <|
    xl_cons (xk_dup hc xd_0_30) <|
    xl_cons (xk_callIN (Y := xm_y102) ho rfl (by decide) ⟨by decide, by decide⟩ xl_11 hc xd_0_31 rfl rfl (b' := 0) rfl xm_nd102 rfl xz_10 xl_12) <|
    xl_cons (xk_putfieldF (C := xm_C0) (T := xm_T0) (N := 11) (ty := xm_ty0) hc xd_0_34 ho rfl (by decide) xm_u0 xm_tk0 rfl xm_nm0 xl_13 rfl rfl rfl) <|
    xl_cons (xk_aload_n hc xd_0_37 rfl) <|
    xl_cons (xk_new (C := xm_C2) (T := xm_T2) (N := 5) (ty := xm_ty2) hc xd_0_38 ho rfl xm_u2 xm_tk2 rfl (fun _ => rfl) xm_df2 xl_9 xl_10 xl_11) <|
    xl_cons (xk_dup hc xd_0_41) <|
    xl_cons (xk_callIN (Y := xm_y102) ho rfl (by decide) ⟨by decide, by decide⟩ xl_11 hc xd_0_42 rfl rfl (b' := 0) rfl xm_nd102 rfl xz_10 xl_12) <|
    xl_cons (xk_putfieldF (C := xm_C0) (T := xm_T0) (N := 11) (ty := xm_ty0) hc xd_0_45 ho rfl (by decide) xm_u0 xm_tk0 rfl xm_nm0 xl_14 rfl rfl rfl) <|
    xl_cons (xk_aload_n hc xd_0_48 rfl) <|
    xl_cons (xk_new (C := xm_C3) (T := xm_T3) (N := 11) (ty := xm_ty3) hc xd_0_49 ho rfl xm_u3 xm_tk3 rfl (fun _ => rfl) xm_df3 xl_15 xl_16 xl_17) <|
    xl_cons (xk_dup hc xd_0_52) <|
    xl_cons (xk_callIN (Y := xm_y111) ho rfl (by decide) ⟨by decide, by decide⟩ xl_17 hc xd_0_53 rfl rfl (b' := 0) rfl xm_nd111 rfl xz_11 xl_18) <|
    xl_cons (xk_putfieldF (C := xm_C0) (T := xm_T0) (N := 11) (ty := xm_ty0) hc xd_0_56 ho rfl (by decide) xm_u0 xm_tk0 rfl xm_nm0 xl_19 rfl rfl rfl) <|
    xl_cons (xk_aload_n hc xd_0_59 rfl) <|
    xl_cons (xk_new (C := xm_C3) (T := xm_T3) (N := 11) (ty := xm_ty3) hc xd_0_60 ho rfl xm_u3 xm_tk3 rfl (fun _ => rfl) xm_df3 xl_15 xl_16 xl_17) <|
    xl_cons (xk_dup hc xd_0_63) <|
    xl_cons (xk_callIN (Y := xm_y111) ho rfl (by decide) ⟨by decide, by decide⟩ xl_17 hc xd_0_64 rfl rfl (b' := 0) rfl xm_nd111 rfl xz_11 xl_18) <|
    xl_cons (xk_putfieldF (C := xm_C0) (T := xm_T0) (N := 11) (ty := xm_ty0) hc xd_0_67 ho rfl (by decide) xm_u0 xm_tk0 rfl xm_nm0 xl_20 rfl rfl rfl) <|
    xl_cons (xk_aload_n hc xd_0_70 rfl) <|
    xl_cons (xk_new (C := xm_C3) (T := xm_T3) (N := 11) (ty := xm_ty3) hc xd_0_71 ho rfl xm_u3 xm_tk3 rfl (fun _ => rfl) xm_df3 xl_15 xl_16 xl_17) <|
    xl_cons (xk_dup hc xd_0_74) <|
    xl_cons (xk_callIN (Y := xm_y111) ho rfl (by decide) ⟨by decide, by decide⟩ xl_17 hc xd_0_75 rfl rfl (b' := 0) rfl xm_nd111 rfl xz_11 xl_18) <|
    xl_cons (xk_putfieldF (C := xm_C0) (T := xm_T0) (N := 11) (ty := xm_ty0) hc xd_0_78 ho rfl (by decide) xm_u0 xm_tk0 rfl xm_nm0 xl_21 rfl rfl rfl) <|
    xl_cons (xk_aload_n hc xd_0_81 rfl) <|
    xl_cons (xk_new (C := xm_C4) (T := xm_T4) (N := 6) (ty := xm_ty4) hc xd_0_82 ho rfl xm_u4 xm_tk4 rfl (fun _ => rfl) xm_df4 xl_22 xl_23 xl_24) <|
    xl_cons (xk_dup hc xd_0_85) (xl_nil)
set_option maxRecDepth 100000 in
theorem xo_0_1 : ∀ e ∈ ([(86, 1, .aload_n 0, 0, 0, .null, [], none),
  (87, 3, .getfield 32, 0, 4, .null, [], none),
  (90, 3, .invokespecial 44, 90, 2, .retAddr 4, [], none),
  (93, 3, .putfield 47, 0, 7, .null, [], none),
  (96, 1, .aload_n 0, 0, 0, .null, [], none),
  (97, 3, .new 51, 5, 0, .null, [], none),
  (100, 1, .dup, 0, 0, .null, [], none),
  (101, 1, .iconst 0, 0, 0, .int 0, [], none),
  (102, 3, .invokespecial 53, 108, 2, .retAddr 4, [], none),
  (105, 3, .putfield 56, 0, 8, .null, [], none),
  (108, 3, .new 60, 6, 0, .null, [], none),
  (111, 1, .dup, 0, 0, .null, [], none),
  (112, 1, .aload_n 0, 0, 0, .null, [], none),
  (113, 3, .getfield 10, 0, 0, .null, [], none),
  (116, 3, .invokespecial 62, 149, 2, .retAddr 4, [], none),
  (119, 1, .astore_n 1, 1, 0, .null, [], none),
  (120, 1, .aload_n 0, 0, 0, .null, [], none),
  (121, 3, .new 65, 7, 0, .null, [], none),
  (124, 1, .dup, 0, 0, .null, [], none),
  (125, 1, .aload_n 1, 1, 0, .null, [], none),
  (126, 1, .aload_n 0, 0, 0, .null, [], none),
  (127, 3, .getfield 26, 0, 3, .null, [], none),
  (130, 3, .invokespecial 67, 146, 3, .retAddr 4, [], none),
  (133, 3, .putfield 70, 0, 9, .null, [], none),
  (136, 1, .aload_n 0, 0, 0, .null, [], none),
  (137, 3, .new 74, 8, 0, .null, [], none),
  (140, 1, .dup, 0, 0, .null, [], none),
  (141, 1, .aload_n 1, 1, 0, .null, [], none),
  (142, 1, .aload_n 0, 0, 0, .null, [], none),
  (143, 3, .getfield 36, 0, 5, .null, [], none),
  (146, 3, .invokespecial 76, 132, 3, .retAddr 4, [], none),
  (149, 3, .putfield 79, 0, 10, .null, [], none),
  (152, 1, .return_, 0, 0, .null, [], none)] : List xr_E), xr_sd xm_P 0 e := by
  have hc : xp_cd xm_P 0 = prog_1_method_1_code := rfl
  have ho : xp_own xm_P 0 = "ExchangeText" := rfl
  have hm : xp_ml xm_P 0 = 2 := rfl
  exact xl_cons (xk_aload_n hc xd_0_86 rfl) <|
    xl_cons (xk_getfield (C := xm_C0) (T := xm_T0) (N := 11) hc xd_0_87 ho rfl (by decide) xm_u0 xl_19) <|
    xl_cons (xk_callI (Y := xm_y90) ho rfl (by decide) ⟨by decide, by decide⟩ xl_24 hc xd_0_90 rfl rfl (b' := 1) rfl xm_nd90 rfl xl_25 xl_26) <|
    xl_cons (xk_putfieldF (C := xm_C0) (T := xm_T0) (N := 11) (ty := xm_ty0) hc xd_0_93 ho rfl (by decide) xm_u0 xm_tk0 rfl xm_nm0 xl_27 rfl rfl rfl) <|
    xl_cons (xk_aload_n hc xd_0_96 rfl) <|
    xl_cons (xk_new (C := xm_C5) (T := xm_T5) (N := 1) (ty := xm_ty5) hc xd_0_97 ho rfl xm_u5 xm_tk5 rfl (fun _ => rfl) xm_df5 xl_28 xl_29 xl_30) <|
    xl_cons (xk_dup hc xd_0_100) <|
    xl_cons (xk_iconst hc xd_0_101 (by decide)) <|
    xl_cons (xk_callI (Y := xm_y108) ho rfl (by decide) ⟨by decide, by decide⟩ xl_30 hc xd_0_102 rfl rfl (b' := 1) rfl xm_nd108 rfl xl_31 xl_32) <|
    xl_cons (xk_putfieldF (C := xm_C0) (T := xm_T0) (N := 11) (ty := xm_ty0) hc xd_0_105 ho rfl (by decide) xm_u0 xm_tk0 rfl xm_nm0 xl_33 rfl rfl rfl) <|
    xl_cons (xk_new (C := xm_C6) (T := xm_T6) (N := 7) (ty := xm_ty6) hc xd_0_108 ho rfl xm_u6 xm_tk6 rfl (fun _ => rfl) xm_df6 xl_34 xl_35 xl_36) <|
    xl_cons (xk_dup hc xd_0_111) <|
    xl_cons (xk_aload_n hc xd_0_112 rfl) <|
    xl_cons (xk_getfield (C := xm_C0) (T := xm_T0) (N := 11) hc xd_0_113 ho rfl (by decide) xm_u0 xl_7) <|
    xl_cons (xk_callI (Y := xm_y149) ho rfl (by decide) ⟨by decide, by decide⟩ xl_36 hc xd_0_116 rfl rfl (b' := 1) rfl xm_nd149 rfl xl_37 xl_38) <|
    xl_cons (xk_astore_n hc xd_0_119 hm rfl (by decide)) <|
    xl_cons (xk_aload_n hc xd_0_120 rfl) <|
    xl_cons (xk_new (C := xm_C7) (T := xm_T7) (N := 2) (ty := xm_ty7) hc xd_0_121 ho rfl xm_u7 xm_tk7 rfl (fun _ => rfl) xm_df7 xl_39 xl_40 xl_41) <|
    xl_cons (xk_dup hc xd_0_124) <|
    xl_cons (xk_aload_n hc xd_0_125 rfl) <|
    xl_cons (xk_aload_n hc xd_0_126 rfl) <|
    xl_cons (xk_getfield (C := xm_C0) (T := xm_T0) (N := 11) hc xd_0_127 ho rfl (by decide) xm_u0 xl_14) <|
    xl_cons (xk_callI (Y := xm_y146) ho rfl (by decide) ⟨by decide, by decide⟩ xl_41 hc xd_0_130 rfl rfl (b' := 2) rfl xm_nd146 rfl xl_42 xl_43) <|
    xl_cons (xk_putfieldF (C := xm_C0) (T := xm_T0) (N := 11) (ty := xm_ty0) hc xd_0_133 ho rfl (by decide) xm_u0 xm_tk0 rfl xm_nm0 xl_44 rfl rfl rfl) <|
    xl_cons (xk_aload_n hc xd_0_136 rfl) <|
    xl_cons (xk_new (C := xm_C8) (T := xm_T8) (N := 2) (ty := xm_ty8) hc xd_0_137 ho rfl xm_u8 xm_tk8 rfl (fun _ => rfl) xm_df8 xl_45 xl_46 xl_47) <|
    xl_cons (xk_dup hc xd_0_140) <|
    xl_cons (xk_aload_n hc xd_0_141 rfl) <|
    xl_cons (xk_aload_n hc xd_0_142 rfl) <|
    xl_cons (xk_getfield (C := xm_C0) (T := xm_T0) (N := 11) hc xd_0_143 ho rfl (by decide) xm_u0 xl_20) <|
    xl_cons (xk_callI (Y := xm_y132) ho rfl (by decide) ⟨by decide, by decide⟩ xl_47 hc xd_0_146 rfl rfl (b' := 2) rfl xm_nd132 rfl xl_48 xl_49) <|
    xl_cons (xk_putfieldF (C := xm_C0) (T := xm_T0) (N := 11) (ty := xm_ty0) hc xd_0_149 ho rfl (by decide) xm_u0 xm_tk0 rfl xm_nm0 xl_50 rfl rfl rfl) <|
    xl_cons (xk_return_ hc xd_0_152) (xl_nil)
theorem xo_0 : ∀ e ∈ xm_i0, xr_sd xm_P 0 e := xl_app xo_0_0 (xo_0_1)
set_option maxRecDepth 100000 in
theorem xo_1_0 : ∀ e ∈ ([(0, 1, .iconst 0, 0, 0, .int 0, [], none),
  (1, 1, .istore_n 3, 3, 0, .null, [], none),
  (2, 2, .bipush 56, 0, 0, .int 56, [], none),
  (4, 2, .istore 4, 4, 0, .null, [], none),
  (6, 2, .iload 4, 4, 0, .null, [], none),
  (8, 3, .ifCond .lt 59, 67, 0, .null, [], none),
  (11, 1, .lload_n 1, 1, 0, .null, [], none),
  (12, 2, .iload 4, 4, 0, .null, [], none),
  (14, 3, .invokestatic 83, 27, 2, .retAddr 2, [], none),
  (17, 2, .istore 5, 5, 0, .null, [], none),
  (19, 2, .iload 5, 5, 0, .null, [], none),
  (21, 3, .ifCond .eq 27, 48, 0, .null, [], none),
  (24, 2, .iload 5, 5, 0, .null, [], none),
  (26, 2, .bipush 32, 0, 0, .int 32, [], none),
  (28, 3, .if_icmp .lt 10, 38, 0, .null, [], none),
  (31, 2, .iload 5, 5, 0, .null, [], none),
  (33, 2, .bipush 126, 0, 0, .int 126, [], none),
  (35, 3, .if_icmp .le 13, 48, 0, .null, [], none),
  (38, 3, .new 87, 0, 1, .null, [], none),
  (48, 1, .iload_n 3, 3, 0, .null, [], none),
  (49, 2, .iload 5, 5, 0, .null, [], none),
  (51, 3, .ifCond .ne 7, 58, 0, .null, [], none),
  (54, 1, .iconst 0, 0, 0, .int 0, [], none),
  (55, 3, .goto 4, 59, 0, .null, [], none),
  (58, 1, .iconst 1, 0, 0, .int 1, [], none),
  (59, 1, .iadd, 0, 0, .null, [], none),
  (60, 1, .istore_n 3, 3, 0, .null, [], none),
  (61, 3, .iinc 4 (-8), 4, 0, .int (-8), [], none),
  (64, 3, .goto (-58), 6, 0, .null, [], none),
  (67, 1, .aload_n 0, 0, 0, .null, [], none),
  (68, 3, .getfield 10, 0, 0, .null, [], none),
  (71, 3, .getfield 94, 1, 1, .null, [], none),
  (74, 1, .iload_n 3, 3, 0, .null, [], none),
  (75, 1, .iadd, 0, 0, .null, [], none),
  (76, 3, .sipush 1200, 0, 0, .int 1200, [], none),
  (79, 3, .if_icmp .le 13, 92, 0, .null, [], none),
  (82, 3, .new 98, 1, 1, .null, [], none),
  (92, 1, .aload_n 0, 0, 0, .null, [], none),
  (93, 3, .getfield 10, 0, 0, .null, [], none),
  (96, 1, .lload_n 1, 1, 0, .null, [], none)] : List xr_E), xr_sd xm_P 1 e := by
  have hc : xp_cd xm_P 1 = prog_1_method_2_code := rfl
  have ho : xp_own xm_P 1 = "ExchangeText" := rfl
  have hm : xp_ml xm_P 1 = 6 := rfl
  exact xl_cons (xk_iconst hc xd_1_0 (by decide)) <|
    xl_cons (xk_istore_n hc xd_1_1 hm rfl (by decide)) <|
    xl_cons (xk_bipush hc xd_1_2 (by decide)) <|
    xl_cons (xk_istore hc xd_1_4 hm rfl (by decide)) <|
    xl_cons (xk_iload hc xd_1_6 rfl) <|
    xl_cons (xk_ifCond hc xd_1_8 (by decide)) <|
    xl_cons (xk_lload_n hc xd_1_11 rfl) <|
    xl_cons (xk_iload hc xd_1_12 rfl) <|
    xl_cons (xk_callS (Y := xm_y27) ho rfl (by decide) ⟨by decide, by decide⟩ xl_52 hc xd_1_14 rfl xm_nd27 xl_51 xl_53) <|
    xl_cons (xk_istore hc xd_1_17 hm rfl (by decide)) <|
    xl_cons (xk_iload hc xd_1_19 rfl) <|
    xl_cons (xk_ifCond hc xd_1_21 (by decide)) <|
    xl_cons (xk_iload hc xd_1_24 rfl) <|
    xl_cons (xk_bipush hc xd_1_26 (by decide)) <|
    xl_cons (xk_if_icmp hc xd_1_28 (by decide)) <|
    xl_cons (xk_iload hc xd_1_31 rfl) <|
    xl_cons (xk_bipush hc xd_1_33 (by decide)) <|
    xl_cons (xk_if_icmp hc xd_1_35 (by decide)) <|
    xl_cons (xk_throw (E := "java/lang/IllegalArgumentException") (text := "a byte is no character of a text") (names := ["java/lang/RuntimeException", "java/lang/Exception"]) (is := 89) (ic := 91) hc xd_1_38 ho rfl (by decide +kernel) (by decide +kernel) xl_54 xl_55 xm_s0 xm_at0 xd_1_41 xd_1_42 xd_1_44 xd_1_47 ⟨by decide, by decide⟩) <|
    xl_cons (xk_iload_n hc xd_1_48 rfl) <|
    xl_cons (xk_iload hc xd_1_49 rfl) <|
    xl_cons (xk_ifCond hc xd_1_51 (by decide)) <|
    xl_cons (xk_iconst hc xd_1_54 (by decide)) <|
    xl_cons (xk_goto hc xd_1_55 (by decide)) <|
    xl_cons (xk_iconst hc xd_1_58 (by decide)) <|
    xl_cons (xk_iadd hc xd_1_59) <|
    xl_cons (xk_istore_n hc xd_1_60 hm rfl (by decide)) <|
    xl_cons (xk_iinc hc xd_1_61 hm rfl (by decide) (by decide)) <|
    xl_cons (xk_goto hc xd_1_64 (by decide)) <|
    xl_cons (xk_aload_n hc xd_1_67 rfl) <|
    xl_cons (xk_getfield (C := xm_C0) (T := xm_T0) (N := 11) hc xd_1_68 ho rfl (by decide) xm_u0 xl_7) <|
    xl_cons (xk_getfield (C := xm_C1) (T := xm_T1) (N := 3) hc xd_1_71 ho rfl (by decide) xm_u1 xl_56) <|
    xl_cons (xk_iload_n hc xd_1_74 rfl) <|
    xl_cons (xk_iadd hc xd_1_75) <|
    xl_cons (xk_sipush hc xd_1_76 (by decide)) <|
    xl_cons (xk_if_icmp hc xd_1_79 (by decide)) <|
    xl_cons (xk_throw (E := "java/lang/IllegalStateException") (text := "the text would be too long") (names := ["java/lang/RuntimeException", "java/lang/Exception"]) (is := 100) (ic := 102) hc xd_1_82 ho rfl (by decide +kernel) (by decide +kernel) xl_57 xl_58 xm_s1 xm_at1 xd_1_85 xd_1_86 xd_1_88 xd_1_91 ⟨by decide, by decide⟩) <|
    xl_cons (xk_aload_n hc xd_1_92 rfl) <|
    xl_cons (xk_getfield (C := xm_C0) (T := xm_T0) (N := 11) hc xd_1_93 ho rfl (by decide) xm_u0 xl_7) <|
    xl_cons (xk_lload_n hc xd_1_96 rfl) (xl_nil)
set_option maxRecDepth 100000 in
theorem xo_1_1 : ∀ e ∈ ([(97, 3, .invokevirtual 103, 143, 2, .retAddr 0, [], none),
  (100, 1, .aload_n 0, 0, 0, .null, [], none),
  (101, 3, .getfield 10, 0, 0, .null, [], none),
  (104, 3, .getfield 94, 1, 1, .null, [], none),
  (107, 1, .ireturn, 0, 0, .null, [], none)] : List xr_E), xr_sd xm_P 1 e := by
  have hc : xp_cd xm_P 1 = prog_1_method_2_code := rfl
  have ho : xp_own xm_P 1 = "ExchangeText" := rfl
  have hm : xp_ml xm_P 1 = 6 := rfl
  exact xl_cons (xk_callV (Y := xm_y143) ho rfl (by decide) ⟨by decide, by decide⟩ xl_5 hc xd_1_97 rfl (b' := 1) rfl xm_nd143 (T := xm_T1) (N := 3) rfl xl_59 xl_60 xl_61) <|
    xl_cons (xk_aload_n hc xd_1_100 rfl) <|
    xl_cons (xk_getfield (C := xm_C0) (T := xm_T0) (N := 11) hc xd_1_101 ho rfl (by decide) xm_u0 xl_7) <|
    xl_cons (xk_getfield (C := xm_C1) (T := xm_T1) (N := 3) hc xd_1_104 ho rfl (by decide) xm_u1 xl_56) <|
    xl_cons (xk_ireturn hc xd_1_107) (xl_nil)
theorem xo_1 : ∀ e ∈ xm_i1, xr_sd xm_P 1 e := xl_app xo_1_0 (xo_1_1)
set_option maxRecDepth 100000 in
theorem xo_2_0 : ∀ e ∈ ([(0, 1, .iload_n 1, 1, 0, .null, [], none),
  (1, 3, .ifCond .lt 14, 15, 0, .null, [], none),
  (4, 1, .iload_n 1, 1, 0, .null, [], none),
  (5, 1, .aload_n 0, 0, 0, .null, [], none),
  (6, 3, .getfield 10, 0, 0, .null, [], none),
  (9, 3, .getfield 94, 1, 1, .null, [], none),
  (12, 3, .if_icmp .le 13, 25, 0, .null, [], none),
  (15, 3, .new 87, 0, 1, .null, [], none),
  (25, 1, .aload_n 0, 0, 0, .null, [], none),
  (26, 3, .getfield 10, 0, 0, .null, [], none),
  (29, 1, .dup, 0, 0, .null, [], none),
  (30, 3, .getfield 94, 1, 1, .null, [], none),
  (33, 1, .iload_n 1, 1, 0, .null, [], none),
  (34, 1, .isub, 0, 0, .null, [], none),
  (35, 3, .putfield 94, 1, 1, .null, [], none),
  (38, 1, .aload_n 0, 0, 0, .null, [], none),
  (39, 3, .getfield 10, 0, 0, .null, [], none),
  (42, 3, .getfield 94, 1, 1, .null, [], none),
  (45, 1, .ireturn, 0, 0, .null, [], none)] : List xr_E), xr_sd xm_P 2 e := by
  have hc : xp_cd xm_P 2 = prog_1_method_3_code := rfl
  have ho : xp_own xm_P 2 = "ExchangeText" := rfl
  have hm : xp_ml xm_P 2 = 2 := rfl
  exact xl_cons (xk_iload_n hc xd_2_0 rfl) <|
    xl_cons (xk_ifCond hc xd_2_1 (by decide)) <|
    xl_cons (xk_iload_n hc xd_2_4 rfl) <|
    xl_cons (xk_aload_n hc xd_2_5 rfl) <|
    xl_cons (xk_getfield (C := xm_C0) (T := xm_T0) (N := 11) hc xd_2_6 ho rfl (by decide) xm_u0 xl_7) <|
    xl_cons (xk_getfield (C := xm_C1) (T := xm_T1) (N := 3) hc xd_2_9 ho rfl (by decide) xm_u1 xl_56) <|
    xl_cons (xk_if_icmp hc xd_2_12 (by decide)) <|
    xl_cons (xk_throw (E := "java/lang/IllegalArgumentException") (text := "there are not so many characters") (names := ["java/lang/RuntimeException", "java/lang/Exception"]) (is := 107) (ic := 91) hc xd_2_15 ho rfl (by decide +kernel) (by decide +kernel) xl_54 xl_55 xm_s2 xm_at0 xd_2_18 xd_2_19 xd_2_21 xd_2_24 ⟨by decide, by decide⟩) <|
    xl_cons (xk_aload_n hc xd_2_25 rfl) <|
    xl_cons (xk_getfield (C := xm_C0) (T := xm_T0) (N := 11) hc xd_2_26 ho rfl (by decide) xm_u0 xl_7) <|
    xl_cons (xk_dup hc xd_2_29) <|
    xl_cons (xk_getfield (C := xm_C1) (T := xm_T1) (N := 3) hc xd_2_30 ho rfl (by decide) xm_u1 xl_56) <|
    xl_cons (xk_iload_n hc xd_2_33 rfl) <|
    xl_cons (xk_isub hc xd_2_34) <|
    xl_cons (xk_putfield (C := xm_C1) (T := xm_T1) (N := 3) (ty := xm_ty1) hc xd_2_35 ho rfl (by decide) xm_u1 xm_tk1 rfl xm_nm1 xl_56 rfl) <|
    xl_cons (xk_aload_n hc xd_2_38 rfl) <|
    xl_cons (xk_getfield (C := xm_C0) (T := xm_T0) (N := 11) hc xd_2_39 ho rfl (by decide) xm_u0 xl_7) <|
    xl_cons (xk_getfield (C := xm_C1) (T := xm_T1) (N := 3) hc xd_2_42 ho rfl (by decide) xm_u1 xl_56) <|
    xl_cons (xk_ireturn hc xd_2_45) (xl_nil)
theorem xo_2 : ∀ e ∈ xm_i2, xr_sd xm_P 2 e := xo_2_0
set_option maxRecDepth 100000 in
theorem xo_3_0 : ∀ e ∈ ([(0, 1, .iload_n 1, 1, 0, .null, [], none),
  (1, 3, .ifCond .lt 14, 15, 0, .null, [], none),
  (4, 1, .iload_n 1, 1, 0, .null, [], none),
  (5, 1, .aload_n 0, 0, 0, .null, [], none),
  (6, 3, .getfield 10, 0, 0, .null, [], none),
  (9, 3, .getfield 94, 1, 1, .null, [], none),
  (12, 3, .if_icmp .lt 13, 25, 0, .null, [], none),
  (15, 3, .new 87, 0, 1, .null, [], none),
  (25, 1, .aload_n 0, 0, 0, .null, [], none),
  (26, 3, .getfield 10, 0, 0, .null, [], none),
  (29, 1, .iload_n 1, 1, 0, .null, [], none),
  (30, 3, .invokevirtual 111, 144, 2, .retAddr 0, [], none),
  (33, 1, .ireturn, 0, 0, .null, [], none)] : List xr_E), xr_sd xm_P 3 e := by
  have hc : xp_cd xm_P 3 = prog_1_method_4_code := rfl
  have ho : xp_own xm_P 3 = "ExchangeText" := rfl
  have hm : xp_ml xm_P 3 = 2 := rfl
  exact xl_cons (xk_iload_n hc xd_3_0 rfl) <|
    xl_cons (xk_ifCond hc xd_3_1 (by decide)) <|
    xl_cons (xk_iload_n hc xd_3_4 rfl) <|
    xl_cons (xk_aload_n hc xd_3_5 rfl) <|
    xl_cons (xk_getfield (C := xm_C0) (T := xm_T0) (N := 11) hc xd_3_6 ho rfl (by decide) xm_u0 xl_7) <|
    xl_cons (xk_getfield (C := xm_C1) (T := xm_T1) (N := 3) hc xd_3_9 ho rfl (by decide) xm_u1 xl_56) <|
    xl_cons (xk_if_icmp hc xd_3_12 (by decide)) <|
    xl_cons (xk_throw (E := "java/lang/IllegalArgumentException") (text := "there is no such character") (names := ["java/lang/RuntimeException", "java/lang/Exception"]) (is := 109) (ic := 91) hc xd_3_15 ho rfl (by decide +kernel) (by decide +kernel) xl_54 xl_55 xm_s3 xm_at0 xd_3_18 xd_3_19 xd_3_21 xd_3_24 ⟨by decide, by decide⟩) <|
    xl_cons (xk_aload_n hc xd_3_25 rfl) <|
    xl_cons (xk_getfield (C := xm_C0) (T := xm_T0) (N := 11) hc xd_3_26 ho rfl (by decide) xm_u0 xl_7) <|
    xl_cons (xk_iload_n hc xd_3_29 rfl) <|
    xl_cons (xk_callV (Y := xm_y144) ho rfl (by decide) ⟨by decide, by decide⟩ xl_5 hc xd_3_30 rfl (b' := 1) rfl xm_nd144 (T := xm_T1) (N := 3) rfl xl_62 xl_63 xl_64) <|
    xl_cons (xk_ireturn hc xd_3_33) (xl_nil)
theorem xo_3 : ∀ e ∈ xm_i3, xr_sd xm_P 3 e := xo_3_0
set_option maxRecDepth 100000 in
theorem xo_4_0 : ∀ e ∈ ([(0, 1, .aload_n 0, 0, 0, .null, [], none),
  (1, 3, .getfield 70, 0, 9, .null, [], none),
  (4, 3, .invokevirtual 115, 147, 1, .retAddr 0, [], none),
  (7, 3, .ifCond .ne 16, 23, 0, .null, [], none),
  (10, 1, .iconst (-1), 0, 0, .int (-1), [], none),
  (11, 1, .aload_n 0, 0, 0, .null, [], none),
  (12, 3, .getfield 70, 0, 9, .null, [], none),
  (15, 3, .getfield 119, 7, 0, .null, [], none),
  (18, 3, .invokevirtual 123, 155, 1, .retAddr 0, [], none),
  (21, 1, .isub, 0, 0, .null, [], none),
  (22, 1, .ireturn, 0, 0, .null, [], none),
  (23, 1, .aload_n 0, 0, 0, .null, [], none),
  (24, 3, .getfield 22, 0, 2, .null, [], none),
  (27, 1, .aload_n 0, 0, 0, .null, [], none),
  (28, 3, .getfield 26, 0, 3, .null, [], none),
  (31, 3, .invokevirtual 127, 107, 2, .retAddr 0, [], none),
  (34, 1, .aload_n 0, 0, 0, .null, [], none),
  (35, 3, .getfield 10, 0, 0, .null, [], none),
  (38, 3, .invokevirtual 131, 141, 1, .retAddr 0, [], none),
  (41, 1, .aload_n 0, 0, 0, .null, [], none),
  (42, 3, .getfield 22, 0, 2, .null, [], none),
  (45, 3, .getfield 134, 2, 0, .null, [], none),
  (48, 1, .ireturn, 0, 0, .null, [], none)] : List xr_E), xr_sd xm_P 4 e := by
  have hc : xp_cd xm_P 4 = prog_1_method_5_code := rfl
  have ho : xp_own xm_P 4 = "ExchangeText" := rfl
  have hm : xp_ml xm_P 4 = 1 := rfl
  exact xl_cons (xk_aload_n hc xd_4_0 rfl) <|
    xl_cons (xk_getfield (C := xm_C0) (T := xm_T0) (N := 11) hc xd_4_1 ho rfl (by decide) xm_u0 xl_44) <|
    xl_cons (xk_callV (Y := xm_y147) ho rfl (by decide) ⟨by decide, by decide⟩ xl_41 hc xd_4_4 rfl (b' := 0) rfl xm_nd147 (T := xm_T7) (N := 2) rfl xl_65 xl_66 xl_67) <|
    xl_cons (xk_ifCond hc xd_4_7 (by decide)) <|
    xl_cons (xk_iconst hc xd_4_10 (by decide)) <|
    xl_cons (xk_aload_n hc xd_4_11 rfl) <|
    xl_cons (xk_getfield (C := xm_C0) (T := xm_T0) (N := 11) hc xd_4_12 ho rfl (by decide) xm_u0 xl_44) <|
    xl_cons (xk_getfield (C := xm_C7) (T := xm_T7) (N := 2) hc xd_4_15 ho rfl (by decide) xm_u7 xl_68) <|
    xl_cons (xk_callV (Y := xm_y155) ho rfl (by decide) ⟨by decide, by decide⟩ xl_36 hc xd_4_18 rfl (b' := 0) rfl xm_nd155 (T := xm_T6) (N := 7) rfl xl_69 xl_70 xl_71) <|
    xl_cons (xk_isub hc xd_4_21) <|
    xl_cons (xk_ireturn hc xd_4_22) <|
    xl_cons (xk_aload_n hc xd_4_23 rfl) <|
    xl_cons (xk_getfield (C := xm_C0) (T := xm_T0) (N := 11) hc xd_4_24 ho rfl (by decide) xm_u0 xl_13) <|
    xl_cons (xk_aload_n hc xd_4_27 rfl) <|
    xl_cons (xk_getfield (C := xm_C0) (T := xm_T0) (N := 11) hc xd_4_28 ho rfl (by decide) xm_u0 xl_14) <|
    xl_cons (xk_callV (Y := xm_y107) ho rfl (by decide) ⟨by decide, by decide⟩ xl_11 hc xd_4_31 rfl (b' := 1) rfl xm_nd107 (T := xm_T2) (N := 5) rfl xl_72 xl_73 xl_74) <|
    xl_cons (xk_aload_n hc xd_4_34 rfl) <|
    xl_cons (xk_getfield (C := xm_C0) (T := xm_T0) (N := 11) hc xd_4_35 ho rfl (by decide) xm_u0 xl_7) <|
    xl_cons (xk_callV (Y := xm_y141) ho rfl (by decide) ⟨by decide, by decide⟩ xl_5 hc xd_4_38 rfl (b' := 0) rfl xm_nd141 (T := xm_T1) (N := 3) rfl xl_75 xl_76 xl_77) <|
    xl_cons (xk_aload_n hc xd_4_41 rfl) <|
    xl_cons (xk_getfield (C := xm_C0) (T := xm_T0) (N := 11) hc xd_4_42 ho rfl (by decide) xm_u0 xl_13) <|
    xl_cons (xk_getfield (C := xm_C2) (T := xm_T2) (N := 5) hc xd_4_45 ho rfl (by decide) xm_u2 xl_78) <|
    xl_cons (xk_ireturn hc xd_4_48) (xl_nil)
theorem xo_4 : ∀ e ∈ xm_i4, xr_sd xm_P 4 e := xo_4_0
set_option maxRecDepth 100000 in
theorem xo_5_0 : ∀ e ∈ ([(0, 1, .aload_n 0, 0, 0, .null, [], none),
  (1, 3, .getfield 79, 0, 10, .null, [], none),
  (4, 3, .invokevirtual 137, 133, 1, .retAddr 0, [], none),
  (7, 3, .ifCond .ne 16, 23, 0, .null, [], none),
  (10, 1, .iconst (-1), 0, 0, .int (-1), [], none),
  (11, 1, .aload_n 0, 0, 0, .null, [], none),
  (12, 3, .getfield 79, 0, 10, .null, [], none),
  (15, 3, .getfield 138, 8, 0, .null, [], none),
  (18, 3, .invokevirtual 123, 155, 1, .retAddr 0, [], none),
  (21, 1, .isub, 0, 0, .null, [], none),
  (22, 1, .ireturn, 0, 0, .null, [], none),
  (23, 1, .aload_n 0, 0, 0, .null, [], none),
  (24, 3, .getfield 36, 0, 5, .null, [], none),
  (27, 3, .invokevirtual 139, 122, 1, .retAddr 0, [], none),
  (30, 1, .istore_n 1, 1, 0, .null, [], none),
  (31, 1, .iload_n 1, 1, 0, .null, [], none),
  (32, 1, .iconst (-1), 0, 0, .int (-1), [], none),
  (33, 3, .if_icmp .eq 9, 42, 0, .null, [], none),
  (36, 3, .sipush (-10000), 0, 0, .int (-10000), [], none),
  (39, 1, .iload_n 1, 1, 0, .null, [], none),
  (40, 1, .isub, 0, 0, .null, [], none),
  (41, 1, .ireturn, 0, 0, .null, [], none),
  (42, 1, .aload_n 0, 0, 0, .null, [], none),
  (43, 3, .getfield 32, 0, 4, .null, [], none),
  (46, 1, .aload_n 0, 0, 0, .null, [], none),
  (47, 3, .getfield 36, 0, 5, .null, [], none),
  (50, 3, .invokevirtual 142, 131, 2, .retAddr 0, [], none),
  (53, 1, .aload_n 0, 0, 0, .null, [], none),
  (54, 3, .getfield 47, 0, 7, .null, [], none),
  (57, 3, .invokevirtual 144, 91, 1, .retAddr 0, [], none),
  (60, 1, .aload_n 0, 0, 0, .null, [], none),
  (61, 3, .getfield 10, 0, 0, .null, [], none),
  (64, 3, .invokevirtual 131, 141, 1, .retAddr 0, [], none),
  (67, 1, .aload_n 0, 0, 0, .null, [], none),
  (68, 3, .getfield 32, 0, 4, .null, [], none),
  (71, 3, .getfield 147, 3, 1, .null, [], none),
  (74, 1, .ireturn, 0, 0, .null, [], none)] : List xr_E), xr_sd xm_P 5 e := by
  have hc : xp_cd xm_P 5 = prog_1_method_6_code := rfl
  have ho : xp_own xm_P 5 = "ExchangeText" := rfl
  have hm : xp_ml xm_P 5 = 2 := rfl
  exact xl_cons (xk_aload_n hc xd_5_0 rfl) <|
    xl_cons (xk_getfield (C := xm_C0) (T := xm_T0) (N := 11) hc xd_5_1 ho rfl (by decide) xm_u0 xl_50) <|
    xl_cons (xk_callV (Y := xm_y133) ho rfl (by decide) ⟨by decide, by decide⟩ xl_47 hc xd_5_4 rfl (b' := 0) rfl xm_nd133 (T := xm_T8) (N := 2) rfl xl_79 xl_80 xl_81) <|
    xl_cons (xk_ifCond hc xd_5_7 (by decide)) <|
    xl_cons (xk_iconst hc xd_5_10 (by decide)) <|
    xl_cons (xk_aload_n hc xd_5_11 rfl) <|
    xl_cons (xk_getfield (C := xm_C0) (T := xm_T0) (N := 11) hc xd_5_12 ho rfl (by decide) xm_u0 xl_50) <|
    xl_cons (xk_getfield (C := xm_C8) (T := xm_T8) (N := 2) hc xd_5_15 ho rfl (by decide) xm_u8 xl_82) <|
    xl_cons (xk_callV (Y := xm_y155) ho rfl (by decide) ⟨by decide, by decide⟩ xl_36 hc xd_5_18 rfl (b' := 0) rfl xm_nd155 (T := xm_T6) (N := 7) rfl xl_69 xl_70 xl_71) <|
    xl_cons (xk_isub hc xd_5_21) <|
    xl_cons (xk_ireturn hc xd_5_22) <|
    xl_cons (xk_aload_n hc xd_5_23 rfl) <|
    xl_cons (xk_getfield (C := xm_C0) (T := xm_T0) (N := 11) hc xd_5_24 ho rfl (by decide) xm_u0 xl_20) <|
    xl_cons (xk_callV (Y := xm_y122) ho rfl (by decide) ⟨by decide, by decide⟩ xl_17 hc xd_5_27 rfl (b' := 0) rfl xm_nd122 (T := xm_T3) (N := 11) rfl xl_83 xl_84 xl_85) <|
    xl_cons (xk_istore_n hc xd_5_30 hm rfl (by decide)) <|
    xl_cons (xk_iload_n hc xd_5_31 rfl) <|
    xl_cons (xk_iconst hc xd_5_32 (by decide)) <|
    xl_cons (xk_if_icmp hc xd_5_33 (by decide)) <|
    xl_cons (xk_sipush hc xd_5_36 (by decide)) <|
    xl_cons (xk_iload_n hc xd_5_39 rfl) <|
    xl_cons (xk_isub hc xd_5_40) <|
    xl_cons (xk_ireturn hc xd_5_41) <|
    xl_cons (xk_aload_n hc xd_5_42 rfl) <|
    xl_cons (xk_getfield (C := xm_C0) (T := xm_T0) (N := 11) hc xd_5_43 ho rfl (by decide) xm_u0 xl_19) <|
    xl_cons (xk_aload_n hc xd_5_46 rfl) <|
    xl_cons (xk_getfield (C := xm_C0) (T := xm_T0) (N := 11) hc xd_5_47 ho rfl (by decide) xm_u0 xl_20) <|
    xl_cons (xk_callV (Y := xm_y131) ho rfl (by decide) ⟨by decide, by decide⟩ xl_17 hc xd_5_50 rfl (b' := 1) rfl xm_nd131 (T := xm_T3) (N := 11) rfl xl_86 xl_87 xl_88) <|
    xl_cons (xk_aload_n hc xd_5_53 rfl) <|
    xl_cons (xk_getfield (C := xm_C0) (T := xm_T0) (N := 11) hc xd_5_54 ho rfl (by decide) xm_u0 xl_27) <|
    xl_cons (xk_callV (Y := xm_y91) ho rfl (by decide) ⟨by decide, by decide⟩ xl_24 hc xd_5_57 rfl (b' := 0) rfl xm_nd91 (T := xm_T4) (N := 6) rfl xl_89 xl_90 xl_91) <|
    xl_cons (xk_aload_n hc xd_5_60 rfl) <|
    xl_cons (xk_getfield (C := xm_C0) (T := xm_T0) (N := 11) hc xd_5_61 ho rfl (by decide) xm_u0 xl_7) <|
    xl_cons (xk_callV (Y := xm_y141) ho rfl (by decide) ⟨by decide, by decide⟩ xl_5 hc xd_5_64 rfl (b' := 0) rfl xm_nd141 (T := xm_T1) (N := 3) rfl xl_75 xl_76 xl_77) <|
    xl_cons (xk_aload_n hc xd_5_67 rfl) <|
    xl_cons (xk_getfield (C := xm_C0) (T := xm_T0) (N := 11) hc xd_5_68 ho rfl (by decide) xm_u0 xl_19) <|
    xl_cons (xk_getfield (C := xm_C3) (T := xm_T3) (N := 11) hc xd_5_71 ho rfl (by decide) xm_u3 xl_92) <|
    xl_cons (xk_ireturn hc xd_5_74) (xl_nil)
theorem xo_5 : ∀ e ∈ xm_i5, xr_sd xm_P 5 e := xo_5_0
set_option maxRecDepth 100000 in
theorem xo_6_0 : ∀ e ∈ ([(0, 1, .aload_n 0, 0, 0, .null, [], none),
  (1, 3, .getfield 16, 0, 1, .null, [], none),
  (4, 3, .invokevirtual 131, 141, 1, .retAddr 0, [], none),
  (7, 1, .iconst 0, 0, 0, .int 0, [], none),
  (8, 1, .istore_n 1, 1, 0, .null, [], none),
  (9, 1, .iload_n 1, 1, 0, .null, [], none),
  (10, 1, .aload_n 0, 0, 0, .null, [], none),
  (11, 3, .getfield 32, 0, 4, .null, [], none),
  (14, 3, .getfield 147, 3, 1, .null, [], none),
  (17, 3, .if_icmp .ge 28, 45, 0, .null, [], none),
  (20, 1, .aload_n 0, 0, 0, .null, [], none),
  (21, 3, .getfield 32, 0, 4, .null, [], none),
  (24, 1, .aload_n 0, 0, 0, .null, [], none),
  (25, 3, .getfield 32, 0, 4, .null, [], none),
  (28, 1, .iload_n 1, 1, 0, .null, [], none),
  (29, 3, .invokevirtual 150, 113, 2, .retAddr 0, [], none),
  (32, 1, .aload_n 0, 0, 0, .null, [], none),
  (33, 3, .getfield 16, 0, 1, .null, [], none),
  (36, 3, .invokestatic 154, 166, 3, .retAddr 2, [], none),
  (39, 3, .iinc 1 1, 1, 0, .int 1, [], none),
  (42, 3, .goto (-33), 9, 0, .null, [], none),
  (45, 1, .aload_n 0, 0, 0, .null, [], none),
  (46, 3, .getfield 16, 0, 1, .null, [], none),
  (49, 3, .getfield 160, 1, 2, .null, [], none),
  (52, 3, .ifCond .eq 6, 58, 0, .null, [], none),
  (55, 2, .bipush (-2), 0, 0, .int (-2), [], none),
  (57, 1, .ireturn, 0, 0, .null, [], none),
  (58, 1, .aload_n 0, 0, 0, .null, [], none),
  (59, 3, .getfield 10, 0, 0, .null, [], none),
  (62, 1, .aload_n 0, 0, 0, .null, [], none),
  (63, 3, .getfield 16, 0, 1, .null, [], none),
  (66, 3, .invokevirtual 164, 145, 2, .retAddr 0, [], none),
  (69, 1, .aload_n 0, 0, 0, .null, [], none),
  (70, 3, .getfield 10, 0, 0, .null, [], none),
  (73, 3, .getfield 94, 1, 1, .null, [], none),
  (76, 1, .ireturn, 0, 0, .null, [], none)] : List xr_E), xr_sd xm_P 6 e := by
  have hc : xp_cd xm_P 6 = prog_1_method_7_code := rfl
  have ho : xp_own xm_P 6 = "ExchangeText" := rfl
  have hm : xp_ml xm_P 6 = 2 := rfl
  exact xl_cons (xk_aload_n hc xd_6_0 rfl) <|
    xl_cons (xk_getfield (C := xm_C0) (T := xm_T0) (N := 11) hc xd_6_1 ho rfl (by decide) xm_u0 xl_8) <|
    xl_cons (xk_callV (Y := xm_y141) ho rfl (by decide) ⟨by decide, by decide⟩ xl_5 hc xd_6_4 rfl (b' := 0) rfl xm_nd141 (T := xm_T1) (N := 3) rfl xl_75 xl_76 xl_77) <|
    xl_cons (xk_iconst hc xd_6_7 (by decide)) <|
    xl_cons (xk_istore_n hc xd_6_8 hm rfl (by decide)) <|
    xl_cons (xk_iload_n hc xd_6_9 rfl) <|
    xl_cons (xk_aload_n hc xd_6_10 rfl) <|
    xl_cons (xk_getfield (C := xm_C0) (T := xm_T0) (N := 11) hc xd_6_11 ho rfl (by decide) xm_u0 xl_19) <|
    xl_cons (xk_getfield (C := xm_C3) (T := xm_T3) (N := 11) hc xd_6_14 ho rfl (by decide) xm_u3 xl_92) <|
    xl_cons (xk_if_icmp hc xd_6_17 (by decide)) <|
    xl_cons (xk_aload_n hc xd_6_20 rfl) <|
    xl_cons (xk_getfield (C := xm_C0) (T := xm_T0) (N := 11) hc xd_6_21 ho rfl (by decide) xm_u0 xl_19) <|
    xl_cons (xk_aload_n hc xd_6_24 rfl) <|
    xl_cons (xk_getfield (C := xm_C0) (T := xm_T0) (N := 11) hc xd_6_25 ho rfl (by decide) xm_u0 xl_19) <|
    xl_cons (xk_iload_n hc xd_6_28 rfl) <|
    xl_cons (xk_callV (Y := xm_y113) ho rfl (by decide) ⟨by decide, by decide⟩ xl_17 hc xd_6_29 rfl (b' := 1) rfl xm_nd113 (T := xm_T3) (N := 11) rfl xl_93 xl_94 xl_95) <|
    xl_cons (xk_aload_n hc xd_6_32 rfl) <|
    xl_cons (xk_getfield (C := xm_C0) (T := xm_T0) (N := 11) hc xd_6_33 ho rfl (by decide) xm_u0 xl_8) <|
    xl_cons (xk_callS (Y := xm_y166) ho rfl (by decide) ⟨by decide, by decide⟩ xl_97 hc xd_6_36 rfl xm_nd166 xl_96 xl_98) <|
    xl_cons (xk_iinc hc xd_6_39 hm rfl (by decide) (by decide)) <|
    xl_cons (xk_goto hc xd_6_42 (by decide)) <|
    xl_cons (xk_aload_n hc xd_6_45 rfl) <|
    xl_cons (xk_getfield (C := xm_C0) (T := xm_T0) (N := 11) hc xd_6_46 ho rfl (by decide) xm_u0 xl_8) <|
    xl_cons (xk_getfield (C := xm_C1) (T := xm_T1) (N := 3) hc xd_6_49 ho rfl (by decide) xm_u1 xl_99) <|
    xl_cons (xk_ifCond hc xd_6_52 (by decide)) <|
    xl_cons (xk_bipush hc xd_6_55 (by decide)) <|
    xl_cons (xk_ireturn hc xd_6_57) <|
    xl_cons (xk_aload_n hc xd_6_58 rfl) <|
    xl_cons (xk_getfield (C := xm_C0) (T := xm_T0) (N := 11) hc xd_6_59 ho rfl (by decide) xm_u0 xl_7) <|
    xl_cons (xk_aload_n hc xd_6_62 rfl) <|
    xl_cons (xk_getfield (C := xm_C0) (T := xm_T0) (N := 11) hc xd_6_63 ho rfl (by decide) xm_u0 xl_8) <|
    xl_cons (xk_callV (Y := xm_y145) ho rfl (by decide) ⟨by decide, by decide⟩ xl_5 hc xd_6_66 rfl (b' := 1) rfl xm_nd145 (T := xm_T1) (N := 3) rfl xl_100 xl_101 xl_102) <|
    xl_cons (xk_aload_n hc xd_6_69 rfl) <|
    xl_cons (xk_getfield (C := xm_C0) (T := xm_T0) (N := 11) hc xd_6_70 ho rfl (by decide) xm_u0 xl_7) <|
    xl_cons (xk_getfield (C := xm_C1) (T := xm_T1) (N := 3) hc xd_6_73 ho rfl (by decide) xm_u1 xl_56) <|
    xl_cons (xk_ireturn hc xd_6_76) (xl_nil)
theorem xo_6 : ∀ e ∈ xm_i6, xr_sd xm_P 6 e := xo_6_0
set_option maxRecDepth 100000 in
theorem xo_7_0 : ∀ e ∈ ([(0, 1, .aload_n 0, 0, 0, .null, [], none),
  (1, 3, .getfield 39, 0, 6, .null, [], none),
  (4, 1, .aload_n 0, 0, 0, .null, [], none),
  (5, 3, .getfield 32, 0, 4, .null, [], none),
  (8, 3, .invokevirtual 142, 131, 2, .retAddr 0, [], none),
  (11, 1, .aload_n 0, 0, 0, .null, [], none),
  (12, 3, .getfield 39, 0, 6, .null, [], none),
  (15, 3, .getfield 147, 3, 1, .null, [], none),
  (18, 1, .ireturn, 0, 0, .null, [], none)] : List xr_E), xr_sd xm_P 7 e := by
  have hc : xp_cd xm_P 7 = prog_1_method_8_code := rfl
  have ho : xp_own xm_P 7 = "ExchangeText" := rfl
  have hm : xp_ml xm_P 7 = 1 := rfl
  exact xl_cons (xk_aload_n hc xd_7_0 rfl) <|
    xl_cons (xk_getfield (C := xm_C0) (T := xm_T0) (N := 11) hc xd_7_1 ho rfl (by decide) xm_u0 xl_21) <|
    xl_cons (xk_aload_n hc xd_7_4 rfl) <|
    xl_cons (xk_getfield (C := xm_C0) (T := xm_T0) (N := 11) hc xd_7_5 ho rfl (by decide) xm_u0 xl_19) <|
    xl_cons (xk_callV (Y := xm_y131) ho rfl (by decide) ⟨by decide, by decide⟩ xl_17 hc xd_7_8 rfl (b' := 1) rfl xm_nd131 (T := xm_T3) (N := 11) rfl xl_86 xl_87 xl_88) <|
    xl_cons (xk_aload_n hc xd_7_11 rfl) <|
    xl_cons (xk_getfield (C := xm_C0) (T := xm_T0) (N := 11) hc xd_7_12 ho rfl (by decide) xm_u0 xl_21) <|
    xl_cons (xk_getfield (C := xm_C3) (T := xm_T3) (N := 11) hc xd_7_15 ho rfl (by decide) xm_u3 xl_92) <|
    xl_cons (xk_ireturn hc xd_7_18) (xl_nil)
theorem xo_7 : ∀ e ∈ xm_i7, xr_sd xm_P 7 e := xo_7_0
set_option maxRecDepth 100000 in
theorem xo_8_0 : ∀ e ∈ ([(0, 1, .iload_n 1, 1, 0, .null, [], none),
  (1, 3, .ifCond .lt 7, 8, 0, .null, [], none),
  (4, 1, .iconst 1, 0, 0, .int 1, [], none),
  (5, 3, .goto 4, 9, 0, .null, [], none),
  (8, 1, .iconst 0, 0, 0, .int 0, [], none),
  (9, 3, .invokestatic 166, 21, 1, .retAddr 2, [], none),
  (12, 1, .aload_n 0, 0, 0, .null, [], none),
  (13, 3, .getfield 32, 0, 4, .null, [], none),
  (16, 1, .iload_n 1, 1, 0, .null, [], none),
  (17, 3, .invokevirtual 150, 113, 2, .retAddr 0, [], none),
  (20, 1, .istore_n 2, 2, 0, .null, [], none),
  (21, 1, .iload_n 2, 2, 0, .null, [], none),
  (22, 1, .iconst (-1), 0, 0, .int (-1), [], none),
  (23, 3, .if_icmp .ne 7, 30, 0, .null, [], none),
  (26, 1, .iconst (-1), 0, 0, .int (-1), [], none),
  (27, 3, .goto 12, 39, 0, .null, [], none),
  (30, 1, .aload_n 0, 0, 0, .null, [], none),
  (31, 3, .getfield 32, 0, 4, .null, [], none),
  (34, 3, .getfield 170, 3, 3, .null, [], none),
  (37, 1, .iload_n 2, 2, 0, .null, [], none),
  (38, 1, .iaload, 0, 0, .null, [], none),
  (39, 1, .ireturn, 0, 0, .null, [], none)] : List xr_E), xr_sd xm_P 8 e := by
  have hc : xp_cd xm_P 8 = prog_1_method_9_code := rfl
  have ho : xp_own xm_P 8 = "ExchangeText" := rfl
  have hm : xp_ml xm_P 8 = 3 := rfl
  exact xl_cons (xk_iload_n hc xd_8_0 rfl) <|
    xl_cons (xk_ifCond hc xd_8_1 (by decide)) <|
    xl_cons (xk_iconst hc xd_8_4 (by decide)) <|
    xl_cons (xk_goto hc xd_8_5 (by decide)) <|
    xl_cons (xk_iconst hc xd_8_8 (by decide)) <|
    xl_cons (xk_callS (Y := xm_y21) ho rfl (by decide) ⟨by decide, by decide⟩ xl_52 hc xd_8_9 rfl xm_nd21 xl_103 xl_104) <|
    xl_cons (xk_aload_n hc xd_8_12 rfl) <|
    xl_cons (xk_getfield (C := xm_C0) (T := xm_T0) (N := 11) hc xd_8_13 ho rfl (by decide) xm_u0 xl_19) <|
    xl_cons (xk_iload_n hc xd_8_16 rfl) <|
    xl_cons (xk_callV (Y := xm_y113) ho rfl (by decide) ⟨by decide, by decide⟩ xl_17 hc xd_8_17 rfl (b' := 1) rfl xm_nd113 (T := xm_T3) (N := 11) rfl xl_93 xl_94 xl_95) <|
    xl_cons (xk_istore_n hc xd_8_20 hm rfl (by decide)) <|
    xl_cons (xk_iload_n hc xd_8_21 rfl) <|
    xl_cons (xk_iconst hc xd_8_22 (by decide)) <|
    xl_cons (xk_if_icmp hc xd_8_23 (by decide)) <|
    xl_cons (xk_iconst hc xd_8_26 (by decide)) <|
    xl_cons (xk_goto hc xd_8_27 (by decide)) <|
    xl_cons (xk_aload_n hc xd_8_30 rfl) <|
    xl_cons (xk_getfield (C := xm_C0) (T := xm_T0) (N := 11) hc xd_8_31 ho rfl (by decide) xm_u0 xl_19) <|
    xl_cons (xk_getfield (C := xm_C3) (T := xm_T3) (N := 11) hc xd_8_34 ho rfl (by decide) xm_u3 xl_105) <|
    xl_cons (xk_iload_n hc xd_8_37 rfl) <|
    xl_cons (xk_iaload hc xd_8_38) <|
    xl_cons (xk_ireturn hc xd_8_39) (xl_nil)
theorem xo_8 : ∀ e ∈ xm_i8, xr_sd xm_P 8 e := xo_8_0
set_option maxRecDepth 100000 in
theorem xo_9_0 : ∀ e ∈ ([(0, 1, .aload_n 0, 0, 0, .null, [], none),
  (1, 1, .iload_n 1, 1, 0, .null, [], none),
  (2, 3, .invokevirtual 174, 22, 2, .retAddr 0, [], none),
  (5, 1, .istore_n 3, 3, 0, .null, [], none),
  (6, 1, .iload_n 2, 2, 0, .null, [], none),
  (7, 3, .ifCond .lt 12, 19, 0, .null, [], none),
  (10, 1, .iload_n 2, 2, 0, .null, [], none),
  (11, 1, .iconst 3, 0, 0, .int 3, [], none),
  (12, 3, .if_icmp .gt 7, 19, 0, .null, [], none),
  (15, 1, .iconst 1, 0, 0, .int 1, [], none),
  (16, 3, .goto 4, 20, 0, .null, [], none),
  (19, 1, .iconst 0, 0, 0, .int 0, [], none),
  (20, 3, .invokestatic 166, 21, 1, .retAddr 2, [], none),
  (23, 1, .iload_n 2, 2, 0, .null, [], none),
  (24, 3, .ifCond .ne 20, 44, 0, .null, [], none),
  (27, 1, .aload_n 0, 0, 0, .null, [], none),
  (28, 3, .getfield 22, 0, 2, .null, [], none),
  (31, 1, .aload_n 0, 0, 0, .null, [], none),
  (32, 3, .getfield 32, 0, 4, .null, [], none),
  (35, 3, .getfield 177, 3, 4, .null, [], none),
  (38, 1, .iload_n 3, 3, 0, .null, [], none),
  (39, 1, .laload, 0, 0, .null, [], none),
  (40, 3, .invokevirtual 181, 103, 2, .retAddr 0, [], none),
  (43, 1, .ireturn, 0, 0, .null, [], none),
  (44, 1, .iload_n 2, 2, 0, .null, [], none),
  (45, 1, .iconst 1, 0, 0, .int 1, [], none),
  (46, 3, .if_icmp .ne 13, 59, 0, .null, [], none),
  (49, 1, .aload_n 0, 0, 0, .null, [], none),
  (50, 3, .getfield 32, 0, 4, .null, [], none),
  (53, 3, .getfield 185, 3, 5, .null, [], none),
  (56, 1, .iload_n 3, 3, 0, .null, [], none),
  (57, 1, .iaload, 0, 0, .null, [], none),
  (58, 1, .ireturn, 0, 0, .null, [], none),
  (59, 1, .iload_n 2, 2, 0, .null, [], none),
  (60, 1, .iconst 2, 0, 0, .int 2, [], none),
  (61, 3, .if_icmp .ne 14, 75, 0, .null, [], none),
  (64, 1, .aload_n 0, 0, 0, .null, [], none),
  (65, 3, .getfield 32, 0, 4, .null, [], none),
  (68, 1, .iload_n 3, 3, 0, .null, [], none),
  (69, 3, .invokevirtual 188, 121, 2, .retAddr 0, [], none)] : List xr_E), xr_sd xm_P 9 e := by
  have hc : xp_cd xm_P 9 = prog_1_method_10_code := rfl
  have ho : xp_own xm_P 9 = "ExchangeText" := rfl
  have hm : xp_ml xm_P 9 = 4 := rfl
  exact xl_cons (xk_aload_n hc xd_9_0 rfl) <|
    xl_cons (xk_iload_n hc xd_9_1 rfl) <|
    xl_cons (xk_callV (Y := xm_y22) ho rfl (by decide) ⟨by decide, by decide⟩ xl_52 hc xd_9_2 rfl (b' := 1) rfl xm_nd22 (T := xm_T0) (N := 11) rfl xl_106 xl_107 xl_108) <|
    xl_cons (xk_istore_n hc xd_9_5 hm rfl (by decide)) <|
    xl_cons (xk_iload_n hc xd_9_6 rfl) <|
    xl_cons (xk_ifCond hc xd_9_7 (by decide)) <|
    xl_cons (xk_iload_n hc xd_9_10 rfl) <|
    xl_cons (xk_iconst hc xd_9_11 (by decide)) <|
    xl_cons (xk_if_icmp hc xd_9_12 (by decide)) <|
    xl_cons (xk_iconst hc xd_9_15 (by decide)) <|
    xl_cons (xk_goto hc xd_9_16 (by decide)) <|
    xl_cons (xk_iconst hc xd_9_19 (by decide)) <|
    xl_cons (xk_callS (Y := xm_y21) ho rfl (by decide) ⟨by decide, by decide⟩ xl_52 hc xd_9_20 rfl xm_nd21 xl_103 xl_104) <|
    xl_cons (xk_iload_n hc xd_9_23 rfl) <|
    xl_cons (xk_ifCond hc xd_9_24 (by decide)) <|
    xl_cons (xk_aload_n hc xd_9_27 rfl) <|
    xl_cons (xk_getfield (C := xm_C0) (T := xm_T0) (N := 11) hc xd_9_28 ho rfl (by decide) xm_u0 xl_13) <|
    xl_cons (xk_aload_n hc xd_9_31 rfl) <|
    xl_cons (xk_getfield (C := xm_C0) (T := xm_T0) (N := 11) hc xd_9_32 ho rfl (by decide) xm_u0 xl_19) <|
    xl_cons (xk_getfield (C := xm_C3) (T := xm_T3) (N := 11) hc xd_9_35 ho rfl (by decide) xm_u3 xl_109) <|
    xl_cons (xk_iload_n hc xd_9_38 rfl) <|
    xl_cons (xk_laload hc xd_9_39) <|
    xl_cons (xk_callV (Y := xm_y103) ho rfl (by decide) ⟨by decide, by decide⟩ xl_11 hc xd_9_40 rfl (b' := 1) rfl xm_nd103 (T := xm_T2) (N := 5) rfl xl_110 xl_111 xl_112) <|
    xl_cons (xk_ireturn hc xd_9_43) <|
    xl_cons (xk_iload_n hc xd_9_44 rfl) <|
    xl_cons (xk_iconst hc xd_9_45 (by decide)) <|
    xl_cons (xk_if_icmp hc xd_9_46 (by decide)) <|
    xl_cons (xk_aload_n hc xd_9_49 rfl) <|
    xl_cons (xk_getfield (C := xm_C0) (T := xm_T0) (N := 11) hc xd_9_50 ho rfl (by decide) xm_u0 xl_19) <|
    xl_cons (xk_getfield (C := xm_C3) (T := xm_T3) (N := 11) hc xd_9_53 ho rfl (by decide) xm_u3 xl_113) <|
    xl_cons (xk_iload_n hc xd_9_56 rfl) <|
    xl_cons (xk_iaload hc xd_9_57) <|
    xl_cons (xk_ireturn hc xd_9_58) <|
    xl_cons (xk_iload_n hc xd_9_59 rfl) <|
    xl_cons (xk_iconst hc xd_9_60 (by decide)) <|
    xl_cons (xk_if_icmp hc xd_9_61 (by decide)) <|
    xl_cons (xk_aload_n hc xd_9_64 rfl) <|
    xl_cons (xk_getfield (C := xm_C0) (T := xm_T0) (N := 11) hc xd_9_65 ho rfl (by decide) xm_u0 xl_19) <|
    xl_cons (xk_iload_n hc xd_9_68 rfl) <|
    xl_cons (xk_callV (Y := xm_y121) ho rfl (by decide) ⟨by decide, by decide⟩ xl_17 hc xd_9_69 rfl (b' := 1) rfl xm_nd121 (T := xm_T3) (N := 11) rfl xl_114 xl_115 xl_116) (xl_nil)
set_option maxRecDepth 100000 in
theorem xo_9_1 : ∀ e ∈ ([(72, 3, .goto 12, 84, 0, .null, [], none),
  (75, 1, .aload_n 0, 0, 0, .null, [], none),
  (76, 3, .getfield 47, 0, 7, .null, [], none),
  (79, 3, .getfield 191, 4, 3, .null, [], none),
  (82, 1, .iload_n 3, 3, 0, .null, [], none),
  (83, 1, .iaload, 0, 0, .null, [], none),
  (84, 1, .ireturn, 0, 0, .null, [], none)] : List xr_E), xr_sd xm_P 9 e := by
  have hc : xp_cd xm_P 9 = prog_1_method_10_code := rfl
  have ho : xp_own xm_P 9 = "ExchangeText" := rfl
  have hm : xp_ml xm_P 9 = 4 := rfl
  exact xl_cons (xk_goto hc xd_9_72 (by decide)) <|
    xl_cons (xk_aload_n hc xd_9_75 rfl) <|
    xl_cons (xk_getfield (C := xm_C0) (T := xm_T0) (N := 11) hc xd_9_76 ho rfl (by decide) xm_u0 xl_27) <|
    xl_cons (xk_getfield (C := xm_C4) (T := xm_T4) (N := 6) hc xd_9_79 ho rfl (by decide) xm_u4 xl_117) <|
    xl_cons (xk_iload_n hc xd_9_82 rfl) <|
    xl_cons (xk_iaload hc xd_9_83) <|
    xl_cons (xk_ireturn hc xd_9_84) (xl_nil)
theorem xo_9 : ∀ e ∈ xm_i9, xr_sd xm_P 9 e := xl_app xo_9_0 (xo_9_1)
set_option maxRecDepth 100000 in
theorem xo_10_0 : ∀ e ∈ ([(0, 1, .aload_n 0, 0, 0, .null, [], none),
  (1, 1, .iload_n 1, 1, 0, .null, [], none),
  (2, 1, .iload_n 2, 2, 0, .null, [], none),
  (3, 3, .invokevirtual 194, 23, 3, .retAddr 0, [], none),
  (6, 2, .istore 4, 4, 0, .null, [], none),
  (8, 1, .iload_n 3, 3, 0, .null, [], none),
  (9, 3, .ifCond .eq 8, 17, 0, .null, [], none),
  (12, 1, .iload_n 3, 3, 0, .null, [], none),
  (13, 1, .iconst 1, 0, 0, .int 1, [], none),
  (14, 3, .if_icmp .ne 7, 21, 0, .null, [], none),
  (17, 1, .iconst 1, 0, 0, .int 1, [], none),
  (18, 3, .goto 4, 22, 0, .null, [], none),
  (21, 1, .iconst 0, 0, 0, .int 0, [], none),
  (22, 3, .invokestatic 166, 21, 1, .retAddr 2, [], none),
  (25, 1, .iload_n 3, 3, 0, .null, [], none),
  (26, 3, .ifCond .ne 16, 42, 0, .null, [], none),
  (29, 1, .aload_n 0, 0, 0, .null, [], none),
  (30, 3, .getfield 32, 0, 4, .null, [], none),
  (33, 3, .getfield 198, 3, 7, .null, [], none),
  (36, 2, .iload 4, 4, 0, .null, [], none),
  (38, 1, .iaload, 0, 0, .null, [], none),
  (39, 3, .goto 13, 52, 0, .null, [], none),
  (42, 1, .aload_n 0, 0, 0, .null, [], none),
  (43, 3, .getfield 32, 0, 4, .null, [], none),
  (46, 3, .getfield 201, 3, 8, .null, [], none),
  (49, 2, .iload 4, 4, 0, .null, [], none),
  (51, 1, .iaload, 0, 0, .null, [], none),
  (52, 1, .ireturn, 0, 0, .null, [], none)] : List xr_E), xr_sd xm_P 10 e := by
  have hc : xp_cd xm_P 10 = prog_1_method_11_code := rfl
  have ho : xp_own xm_P 10 = "ExchangeText" := rfl
  have hm : xp_ml xm_P 10 = 5 := rfl
  exact xl_cons (xk_aload_n hc xd_10_0 rfl) <|
    xl_cons (xk_iload_n hc xd_10_1 rfl) <|
    xl_cons (xk_iload_n hc xd_10_2 rfl) <|
    xl_cons (xk_callV (Y := xm_y23) ho rfl (by decide) ⟨by decide, by decide⟩ xl_52 hc xd_10_3 rfl (b' := 2) rfl xm_nd23 (T := xm_T0) (N := 11) rfl xl_118 xl_119 xl_120) <|
    xl_cons (xk_istore hc xd_10_6 hm rfl (by decide)) <|
    xl_cons (xk_iload_n hc xd_10_8 rfl) <|
    xl_cons (xk_ifCond hc xd_10_9 (by decide)) <|
    xl_cons (xk_iload_n hc xd_10_12 rfl) <|
    xl_cons (xk_iconst hc xd_10_13 (by decide)) <|
    xl_cons (xk_if_icmp hc xd_10_14 (by decide)) <|
    xl_cons (xk_iconst hc xd_10_17 (by decide)) <|
    xl_cons (xk_goto hc xd_10_18 (by decide)) <|
    xl_cons (xk_iconst hc xd_10_21 (by decide)) <|
    xl_cons (xk_callS (Y := xm_y21) ho rfl (by decide) ⟨by decide, by decide⟩ xl_52 hc xd_10_22 rfl xm_nd21 xl_103 xl_104) <|
    xl_cons (xk_iload_n hc xd_10_25 rfl) <|
    xl_cons (xk_ifCond hc xd_10_26 (by decide)) <|
    xl_cons (xk_aload_n hc xd_10_29 rfl) <|
    xl_cons (xk_getfield (C := xm_C0) (T := xm_T0) (N := 11) hc xd_10_30 ho rfl (by decide) xm_u0 xl_19) <|
    xl_cons (xk_getfield (C := xm_C3) (T := xm_T3) (N := 11) hc xd_10_33 ho rfl (by decide) xm_u3 xl_121) <|
    xl_cons (xk_iload hc xd_10_36 rfl) <|
    xl_cons (xk_iaload hc xd_10_38) <|
    xl_cons (xk_goto hc xd_10_39 (by decide)) <|
    xl_cons (xk_aload_n hc xd_10_42 rfl) <|
    xl_cons (xk_getfield (C := xm_C0) (T := xm_T0) (N := 11) hc xd_10_43 ho rfl (by decide) xm_u0 xl_19) <|
    xl_cons (xk_getfield (C := xm_C3) (T := xm_T3) (N := 11) hc xd_10_46 ho rfl (by decide) xm_u3 xl_122) <|
    xl_cons (xk_iload hc xd_10_49 rfl) <|
    xl_cons (xk_iaload hc xd_10_51) <|
    xl_cons (xk_ireturn hc xd_10_52) (xl_nil)
theorem xo_10 : ∀ e ∈ xm_i10, xr_sd xm_P 10 e := xo_10_0
set_option maxRecDepth 100000 in
theorem xo_11_0 : ∀ e ∈ ([(0, 1, .aload_n 0, 0, 0, .null, [], none),
  (1, 1, .iload_n 1, 1, 0, .null, [], none),
  (2, 1, .iload_n 2, 2, 0, .null, [], none),
  (3, 3, .invokevirtual 194, 23, 3, .retAddr 0, [], none),
  (6, 2, .istore 4, 4, 0, .null, [], none),
  (8, 1, .iload_n 3, 3, 0, .null, [], none),
  (9, 3, .ifCond .lt 20, 29, 0, .null, [], none),
  (12, 1, .iload_n 3, 3, 0, .null, [], none),
  (13, 1, .aload_n 0, 0, 0, .null, [], none),
  (14, 3, .getfield 32, 0, 4, .null, [], none),
  (17, 2, .iload 4, 4, 0, .null, [], none),
  (19, 3, .invokevirtual 204, 119, 2, .retAddr 0, [], none),
  (22, 3, .if_icmp .ge 7, 29, 0, .null, [], none),
  (25, 1, .iconst 1, 0, 0, .int 1, [], none),
  (26, 3, .goto 4, 30, 0, .null, [], none),
  (29, 1, .iconst 0, 0, 0, .int 0, [], none),
  (30, 3, .invokestatic 166, 21, 1, .retAddr 2, [], none),
  (33, 1, .aload_n 0, 0, 0, .null, [], none),
  (34, 3, .getfield 32, 0, 4, .null, [], none),
  (37, 2, .iload 4, 4, 0, .null, [], none),
  (39, 1, .iload_n 3, 3, 0, .null, [], none),
  (40, 3, .invokevirtual 207, 120, 3, .retAddr 0, [], none),
  (43, 1, .ireturn, 0, 0, .null, [], none)] : List xr_E), xr_sd xm_P 11 e := by
  have hc : xp_cd xm_P 11 = prog_1_method_12_code := rfl
  have ho : xp_own xm_P 11 = "ExchangeText" := rfl
  have hm : xp_ml xm_P 11 = 5 := rfl
  exact xl_cons (xk_aload_n hc xd_11_0 rfl) <|
    xl_cons (xk_iload_n hc xd_11_1 rfl) <|
    xl_cons (xk_iload_n hc xd_11_2 rfl) <|
    xl_cons (xk_callV (Y := xm_y23) ho rfl (by decide) ⟨by decide, by decide⟩ xl_52 hc xd_11_3 rfl (b' := 2) rfl xm_nd23 (T := xm_T0) (N := 11) rfl xl_118 xl_119 xl_120) <|
    xl_cons (xk_istore hc xd_11_6 hm rfl (by decide)) <|
    xl_cons (xk_iload_n hc xd_11_8 rfl) <|
    xl_cons (xk_ifCond hc xd_11_9 (by decide)) <|
    xl_cons (xk_iload_n hc xd_11_12 rfl) <|
    xl_cons (xk_aload_n hc xd_11_13 rfl) <|
    xl_cons (xk_getfield (C := xm_C0) (T := xm_T0) (N := 11) hc xd_11_14 ho rfl (by decide) xm_u0 xl_19) <|
    xl_cons (xk_iload hc xd_11_17 rfl) <|
    xl_cons (xk_callV (Y := xm_y119) ho rfl (by decide) ⟨by decide, by decide⟩ xl_17 hc xd_11_19 rfl (b' := 1) rfl xm_nd119 (T := xm_T3) (N := 11) rfl xl_123 xl_124 xl_125) <|
    xl_cons (xk_if_icmp hc xd_11_22 (by decide)) <|
    xl_cons (xk_iconst hc xd_11_25 (by decide)) <|
    xl_cons (xk_goto hc xd_11_26 (by decide)) <|
    xl_cons (xk_iconst hc xd_11_29 (by decide)) <|
    xl_cons (xk_callS (Y := xm_y21) ho rfl (by decide) ⟨by decide, by decide⟩ xl_52 hc xd_11_30 rfl xm_nd21 xl_103 xl_104) <|
    xl_cons (xk_aload_n hc xd_11_33 rfl) <|
    xl_cons (xk_getfield (C := xm_C0) (T := xm_T0) (N := 11) hc xd_11_34 ho rfl (by decide) xm_u0 xl_19) <|
    xl_cons (xk_iload hc xd_11_37 rfl) <|
    xl_cons (xk_iload_n hc xd_11_39 rfl) <|
    xl_cons (xk_callV (Y := xm_y120) ho rfl (by decide) ⟨by decide, by decide⟩ xl_17 hc xd_11_40 rfl (b' := 2) rfl xm_nd120 (T := xm_T3) (N := 11) rfl xl_126 xl_127 xl_128) <|
    xl_cons (xk_ireturn hc xd_11_43) (xl_nil)
theorem xo_11 : ∀ e ∈ xm_i11, xr_sd xm_P 11 e := xo_11_0
set_option maxRecDepth 100000 in
theorem xo_12_0 : ∀ e ∈ ([(0, 1, .aload_n 0, 0, 0, .null, [], none),
  (1, 1, .iload_n 1, 1, 0, .null, [], none),
  (2, 1, .iload_n 2, 2, 0, .null, [], none),
  (3, 3, .invokevirtual 194, 23, 3, .retAddr 0, [], none),
  (6, 2, .istore 4, 4, 0, .null, [], none),
  (8, 1, .iload_n 3, 3, 0, .null, [], none),
  (9, 2, .ldc 210, 0, 0, .int (-999999999), [], none),
  (11, 3, .if_icmp .lt 13, 24, 0, .null, [], none),
  (14, 1, .iload_n 3, 3, 0, .null, [], none),
  (15, 2, .ldc 211, 0, 0, .int 999999999, [], none),
  (17, 3, .if_icmp .gt 7, 24, 0, .null, [], none),
  (20, 1, .iconst 1, 0, 0, .int 1, [], none),
  (21, 3, .goto 4, 25, 0, .null, [], none),
  (24, 1, .iconst 0, 0, 0, .int 0, [], none),
  (25, 3, .invokestatic 166, 21, 1, .retAddr 2, [], none),
  (28, 1, .aload_n 0, 0, 0, .null, [], none),
  (29, 3, .getfield 32, 0, 4, .null, [], none),
  (32, 3, .getfield 198, 3, 7, .null, [], none),
  (35, 2, .iload 4, 4, 0, .null, [], none),
  (37, 1, .iaload, 0, 0, .null, [], none),
  (38, 3, .ifCond .ne 7, 45, 0, .null, [], none),
  (41, 1, .iconst 1, 0, 0, .int 1, [], none),
  (42, 3, .goto 4, 46, 0, .null, [], none),
  (45, 1, .iconst 0, 0, 0, .int 0, [], none),
  (46, 3, .invokestatic 166, 21, 1, .retAddr 2, [], none),
  (49, 1, .aload_n 0, 0, 0, .null, [], none),
  (50, 3, .getfield 32, 0, 4, .null, [], none),
  (53, 3, .getfield 201, 3, 8, .null, [], none),
  (56, 2, .iload 4, 4, 0, .null, [], none),
  (58, 1, .iaload, 0, 0, .null, [], none),
  (59, 2, .istore 5, 5, 0, .null, [], none),
  (61, 1, .aload_n 0, 0, 0, .null, [], none),
  (62, 3, .getfield 32, 0, 4, .null, [], none),
  (65, 3, .getfield 201, 3, 8, .null, [], none),
  (68, 2, .iload 4, 4, 0, .null, [], none),
  (70, 1, .iload_n 3, 3, 0, .null, [], none),
  (71, 1, .iastore, 0, 0, .null, [], none),
  (72, 1, .aload_n 0, 0, 0, .null, [], none),
  (73, 3, .getfield 47, 0, 7, .null, [], none),
  (76, 3, .invokevirtual 212, 92, 1, .retAddr 0, [], none)] : List xr_E), xr_sd xm_P 12 e := by
  have hc : xp_cd xm_P 12 = prog_1_method_13_code := rfl
  have ho : xp_own xm_P 12 = "ExchangeText" := rfl
  have hm : xp_ml xm_P 12 = 6 := rfl
  exact xl_cons (xk_aload_n hc xd_12_0 rfl) <|
    xl_cons (xk_iload_n hc xd_12_1 rfl) <|
    xl_cons (xk_iload_n hc xd_12_2 rfl) <|
    xl_cons (xk_callV (Y := xm_y23) ho rfl (by decide) ⟨by decide, by decide⟩ xl_52 hc xd_12_3 rfl (b' := 2) rfl xm_nd23 (T := xm_T0) (N := 11) rfl xl_118 xl_119 xl_120) <|
    xl_cons (xk_istore hc xd_12_6 hm rfl (by decide)) <|
    xl_cons (xk_iload_n hc xd_12_8 rfl) <|
    xl_cons (xk_ldc hc xd_12_9 ho rfl xl_129) <|
    xl_cons (xk_if_icmp hc xd_12_11 (by decide)) <|
    xl_cons (xk_iload_n hc xd_12_14 rfl) <|
    xl_cons (xk_ldc hc xd_12_15 ho rfl xl_130) <|
    xl_cons (xk_if_icmp hc xd_12_17 (by decide)) <|
    xl_cons (xk_iconst hc xd_12_20 (by decide)) <|
    xl_cons (xk_goto hc xd_12_21 (by decide)) <|
    xl_cons (xk_iconst hc xd_12_24 (by decide)) <|
    xl_cons (xk_callS (Y := xm_y21) ho rfl (by decide) ⟨by decide, by decide⟩ xl_52 hc xd_12_25 rfl xm_nd21 xl_103 xl_104) <|
    xl_cons (xk_aload_n hc xd_12_28 rfl) <|
    xl_cons (xk_getfield (C := xm_C0) (T := xm_T0) (N := 11) hc xd_12_29 ho rfl (by decide) xm_u0 xl_19) <|
    xl_cons (xk_getfield (C := xm_C3) (T := xm_T3) (N := 11) hc xd_12_32 ho rfl (by decide) xm_u3 xl_121) <|
    xl_cons (xk_iload hc xd_12_35 rfl) <|
    xl_cons (xk_iaload hc xd_12_37) <|
    xl_cons (xk_ifCond hc xd_12_38 (by decide)) <|
    xl_cons (xk_iconst hc xd_12_41 (by decide)) <|
    xl_cons (xk_goto hc xd_12_42 (by decide)) <|
    xl_cons (xk_iconst hc xd_12_45 (by decide)) <|
    xl_cons (xk_callS (Y := xm_y21) ho rfl (by decide) ⟨by decide, by decide⟩ xl_52 hc xd_12_46 rfl xm_nd21 xl_103 xl_104) <|
    xl_cons (xk_aload_n hc xd_12_49 rfl) <|
    xl_cons (xk_getfield (C := xm_C0) (T := xm_T0) (N := 11) hc xd_12_50 ho rfl (by decide) xm_u0 xl_19) <|
    xl_cons (xk_getfield (C := xm_C3) (T := xm_T3) (N := 11) hc xd_12_53 ho rfl (by decide) xm_u3 xl_122) <|
    xl_cons (xk_iload hc xd_12_56 rfl) <|
    xl_cons (xk_iaload hc xd_12_58) <|
    xl_cons (xk_istore hc xd_12_59 hm rfl (by decide)) <|
    xl_cons (xk_aload_n hc xd_12_61 rfl) <|
    xl_cons (xk_getfield (C := xm_C0) (T := xm_T0) (N := 11) hc xd_12_62 ho rfl (by decide) xm_u0 xl_19) <|
    xl_cons (xk_getfield (C := xm_C3) (T := xm_T3) (N := 11) hc xd_12_65 ho rfl (by decide) xm_u3 xl_122) <|
    xl_cons (xk_iload hc xd_12_68 rfl) <|
    xl_cons (xk_iload_n hc xd_12_70 rfl) <|
    xl_cons (xk_iastore hc xd_12_71) <|
    xl_cons (xk_aload_n hc xd_12_72 rfl) <|
    xl_cons (xk_getfield (C := xm_C0) (T := xm_T0) (N := 11) hc xd_12_73 ho rfl (by decide) xm_u0 xl_27) <|
    xl_cons (xk_callV (Y := xm_y92) ho rfl (by decide) ⟨by decide, by decide⟩ xl_24 hc xd_12_76 rfl (b' := 0) rfl xm_nd92 (T := xm_T4) (N := 6) rfl xl_131 xl_132 xl_133) (xl_nil)
set_option maxRecDepth 100000 in
theorem xo_12_1 : ∀ e ∈ ([(79, 2, .iload 5, 5, 0, .null, [], none),
  (81, 1, .ireturn, 0, 0, .null, [], none)] : List xr_E), xr_sd xm_P 12 e := by
  have hc : xp_cd xm_P 12 = prog_1_method_13_code := rfl
  have ho : xp_own xm_P 12 = "ExchangeText" := rfl
  have hm : xp_ml xm_P 12 = 6 := rfl
  exact xl_cons (xk_iload hc xd_12_79 rfl) <|
    xl_cons (xk_ireturn hc xd_12_81) (xl_nil)
theorem xo_12 : ∀ e ∈ xm_i12, xr_sd xm_P 12 e := xl_app xo_12_0 (xo_12_1)
set_option maxRecDepth 100000 in
theorem xo_13_0 : ∀ e ∈ ([(0, 1, .iload_n 1, 1, 0, .null, [], none),
  (1, 3, .ifCond .lt 16, 17, 0, .null, [], none),
  (4, 1, .iload_n 2, 2, 0, .null, [], none),
  (5, 3, .ifCond .lt 12, 17, 0, .null, [], none),
  (8, 1, .iload_n 2, 2, 0, .null, [], none),
  (9, 1, .iconst 2, 0, 0, .int 2, [], none),
  (10, 3, .if_icmp .gt 7, 17, 0, .null, [], none),
  (13, 1, .iconst 1, 0, 0, .int 1, [], none),
  (14, 3, .goto 4, 18, 0, .null, [], none),
  (17, 1, .iconst 0, 0, 0, .int 0, [], none),
  (18, 3, .invokestatic 166, 21, 1, .retAddr 2, [], none),
  (21, 1, .iload_n 1, 1, 0, .null, [], none),
  (22, 1, .istore_n 3, 3, 0, .null, [], none),
  (23, 1, .iconst 0, 0, 0, .int 0, [], none),
  (24, 2, .istore 4, 4, 0, .null, [], none),
  (26, 2, .iload 4, 4, 0, .null, [], none),
  (28, 1, .aload_n 0, 0, 0, .null, [], none),
  (29, 3, .getfield 32, 0, 4, .null, [], none),
  (32, 3, .getfield 147, 3, 1, .null, [], none),
  (35, 3, .if_icmp .ge 84, 119, 0, .null, [], none),
  (38, 1, .aload_n 0, 0, 0, .null, [], none),
  (39, 3, .getfield 32, 0, 4, .null, [], none),
  (42, 2, .iload 4, 4, 0, .null, [], none),
  (44, 3, .invokevirtual 150, 113, 2, .retAddr 0, [], none),
  (47, 2, .istore 5, 5, 0, .null, [], none),
  (49, 1, .aload_n 0, 0, 0, .null, [], none),
  (50, 2, .iload 5, 5, 0, .null, [], none),
  (52, 3, .invokevirtual 215, 24, 2, .retAddr 0, [], none),
  (55, 2, .istore 6, 6, 0, .null, [], none),
  (57, 2, .iload 6, 6, 0, .null, [], none),
  (59, 3, .ifCond .eq 41, 100, 0, .null, [], none),
  (62, 1, .iload_n 3, 3, 0, .null, [], none),
  (63, 3, .ifCond .ne 37, 100, 0, .null, [], none),
  (66, 1, .iload_n 2, 2, 0, .null, [], none),
  (67, 3, .ifCond .ne 14, 81, 0, .null, [], none),
  (70, 1, .aload_n 0, 0, 0, .null, [], none),
  (71, 3, .getfield 32, 0, 4, .null, [], none),
  (74, 3, .getfield 170, 3, 3, .null, [], none),
  (77, 2, .iload 5, 5, 0, .null, [], none),
  (79, 1, .iaload, 0, 0, .null, [], none)] : List xr_E), xr_sd xm_P 13 e := by
  have hc : xp_cd xm_P 13 = prog_1_method_14_code := rfl
  have ho : xp_own xm_P 13 = "ExchangeText" := rfl
  have hm : xp_ml xm_P 13 = 7 := rfl
  exact xl_cons (xk_iload_n hc xd_13_0 rfl) <|
    xl_cons (xk_ifCond hc xd_13_1 (by decide)) <|
    xl_cons (xk_iload_n hc xd_13_4 rfl) <|
    xl_cons (xk_ifCond hc xd_13_5 (by decide)) <|
    xl_cons (xk_iload_n hc xd_13_8 rfl) <|
    xl_cons (xk_iconst hc xd_13_9 (by decide)) <|
    xl_cons (xk_if_icmp hc xd_13_10 (by decide)) <|
    xl_cons (xk_iconst hc xd_13_13 (by decide)) <|
    xl_cons (xk_goto hc xd_13_14 (by decide)) <|
    xl_cons (xk_iconst hc xd_13_17 (by decide)) <|
    xl_cons (xk_callS (Y := xm_y21) ho rfl (by decide) ⟨by decide, by decide⟩ xl_52 hc xd_13_18 rfl xm_nd21 xl_103 xl_104) <|
    xl_cons (xk_iload_n hc xd_13_21 rfl) <|
    xl_cons (xk_istore_n hc xd_13_22 hm rfl (by decide)) <|
    xl_cons (xk_iconst hc xd_13_23 (by decide)) <|
    xl_cons (xk_istore hc xd_13_24 hm rfl (by decide)) <|
    xl_cons (xk_iload hc xd_13_26 rfl) <|
    xl_cons (xk_aload_n hc xd_13_28 rfl) <|
    xl_cons (xk_getfield (C := xm_C0) (T := xm_T0) (N := 11) hc xd_13_29 ho rfl (by decide) xm_u0 xl_19) <|
    xl_cons (xk_getfield (C := xm_C3) (T := xm_T3) (N := 11) hc xd_13_32 ho rfl (by decide) xm_u3 xl_92) <|
    xl_cons (xk_if_icmp hc xd_13_35 (by decide)) <|
    xl_cons (xk_aload_n hc xd_13_38 rfl) <|
    xl_cons (xk_getfield (C := xm_C0) (T := xm_T0) (N := 11) hc xd_13_39 ho rfl (by decide) xm_u0 xl_19) <|
    xl_cons (xk_iload hc xd_13_42 rfl) <|
    xl_cons (xk_callV (Y := xm_y113) ho rfl (by decide) ⟨by decide, by decide⟩ xl_17 hc xd_13_44 rfl (b' := 1) rfl xm_nd113 (T := xm_T3) (N := 11) rfl xl_93 xl_94 xl_95) <|
    xl_cons (xk_istore hc xd_13_47 hm rfl (by decide)) <|
    xl_cons (xk_aload_n hc xd_13_49 rfl) <|
    xl_cons (xk_iload hc xd_13_50 rfl) <|
    xl_cons (xk_callV (Y := xm_y24) ho rfl (by decide) ⟨by decide, by decide⟩ xl_52 hc xd_13_52 rfl (b' := 1) rfl xm_nd24 (T := xm_T0) (N := 11) rfl xl_134 xl_135 xl_136) <|
    xl_cons (xk_istore hc xd_13_55 hm rfl (by decide)) <|
    xl_cons (xk_iload hc xd_13_57 rfl) <|
    xl_cons (xk_ifCond hc xd_13_59 (by decide)) <|
    xl_cons (xk_iload_n hc xd_13_62 rfl) <|
    xl_cons (xk_ifCond hc xd_13_63 (by decide)) <|
    xl_cons (xk_iload_n hc xd_13_66 rfl) <|
    xl_cons (xk_ifCond hc xd_13_67 (by decide)) <|
    xl_cons (xk_aload_n hc xd_13_70 rfl) <|
    xl_cons (xk_getfield (C := xm_C0) (T := xm_T0) (N := 11) hc xd_13_71 ho rfl (by decide) xm_u0 xl_19) <|
    xl_cons (xk_getfield (C := xm_C3) (T := xm_T3) (N := 11) hc xd_13_74 ho rfl (by decide) xm_u3 xl_105) <|
    xl_cons (xk_iload hc xd_13_77 rfl) <|
    xl_cons (xk_iaload hc xd_13_79) (xl_nil)
set_option maxRecDepth 100000 in
theorem xo_13_1 : ∀ e ∈ ([(80, 1, .ireturn, 0, 0, .null, [], none),
  (81, 1, .iload_n 2, 2, 0, .null, [], none),
  (82, 1, .iconst 1, 0, 0, .int 1, [], none),
  (83, 3, .if_icmp .ne 8, 91, 0, .null, [], none),
  (86, 2, .iload 6, 6, 0, .null, [], none),
  (88, 3, .goto 11, 99, 0, .null, [], none),
  (91, 1, .aload_n 0, 0, 0, .null, [], none),
  (92, 2, .iload 5, 5, 0, .null, [], none),
  (94, 2, .iload 6, 6, 0, .null, [], none),
  (96, 3, .invokevirtual 218, 25, 3, .retAddr 0, [], none),
  (99, 1, .ireturn, 0, 0, .null, [], none),
  (100, 1, .iload_n 3, 3, 0, .null, [], none),
  (101, 2, .iload 6, 6, 0, .null, [], none),
  (103, 3, .ifCond .eq 7, 110, 0, .null, [], none),
  (106, 1, .iconst 1, 0, 0, .int 1, [], none),
  (107, 3, .goto 4, 111, 0, .null, [], none),
  (110, 1, .iconst 0, 0, 0, .int 0, [], none),
  (111, 1, .isub, 0, 0, .null, [], none),
  (112, 1, .istore_n 3, 3, 0, .null, [], none),
  (113, 3, .iinc 4 1, 4, 0, .int 1, [], none),
  (116, 3, .goto (-90), 26, 0, .null, [], none),
  (119, 1, .iconst (-1), 0, 0, .int (-1), [], none),
  (120, 1, .ireturn, 0, 0, .null, [], none)] : List xr_E), xr_sd xm_P 13 e := by
  have hc : xp_cd xm_P 13 = prog_1_method_14_code := rfl
  have ho : xp_own xm_P 13 = "ExchangeText" := rfl
  have hm : xp_ml xm_P 13 = 7 := rfl
  exact xl_cons (xk_ireturn hc xd_13_80) <|
    xl_cons (xk_iload_n hc xd_13_81 rfl) <|
    xl_cons (xk_iconst hc xd_13_82 (by decide)) <|
    xl_cons (xk_if_icmp hc xd_13_83 (by decide)) <|
    xl_cons (xk_iload hc xd_13_86 rfl) <|
    xl_cons (xk_goto hc xd_13_88 (by decide)) <|
    xl_cons (xk_aload_n hc xd_13_91 rfl) <|
    xl_cons (xk_iload hc xd_13_92 rfl) <|
    xl_cons (xk_iload hc xd_13_94 rfl) <|
    xl_cons (xk_callV (Y := xm_y25) ho rfl (by decide) ⟨by decide, by decide⟩ xl_52 hc xd_13_96 rfl (b' := 2) rfl xm_nd25 (T := xm_T0) (N := 11) rfl xl_137 xl_138 xl_139) <|
    xl_cons (xk_ireturn hc xd_13_99) <|
    xl_cons (xk_iload_n hc xd_13_100 rfl) <|
    xl_cons (xk_iload hc xd_13_101 rfl) <|
    xl_cons (xk_ifCond hc xd_13_103 (by decide)) <|
    xl_cons (xk_iconst hc xd_13_106 (by decide)) <|
    xl_cons (xk_goto hc xd_13_107 (by decide)) <|
    xl_cons (xk_iconst hc xd_13_110 (by decide)) <|
    xl_cons (xk_isub hc xd_13_111) <|
    xl_cons (xk_istore_n hc xd_13_112 hm rfl (by decide)) <|
    xl_cons (xk_iinc hc xd_13_113 hm rfl (by decide) (by decide)) <|
    xl_cons (xk_goto hc xd_13_116 (by decide)) <|
    xl_cons (xk_iconst hc xd_13_119 (by decide)) <|
    xl_cons (xk_ireturn hc xd_13_120) (xl_nil)
theorem xo_13 : ∀ e ∈ xm_i13, xr_sd xm_P 13 e := xl_app xo_13_0 (xo_13_1)
set_option maxRecDepth 100000 in
theorem xo_14_0 : ∀ e ∈ ([(0, 1, .aload_n 0, 0, 0, .null, [], none),
  (1, 1, .iload_n 1, 1, 0, .null, [], none),
  (2, 3, .invokevirtual 174, 22, 2, .retAddr 0, [], none),
  (5, 1, .istore_n 3, 3, 0, .null, [], none),
  (6, 1, .iload_n 2, 2, 0, .null, [], none),
  (7, 3, .ifCond .lt 7, 14, 0, .null, [], none),
  (10, 1, .iconst 1, 0, 0, .int 1, [], none),
  (11, 3, .goto 4, 15, 0, .null, [], none),
  (14, 1, .iconst 0, 0, 0, .int 0, [], none),
  (15, 3, .invokestatic 166, 21, 1, .retAddr 2, [], none),
  (18, 1, .iload_n 2, 2, 0, .null, [], none),
  (19, 2, .istore 4, 4, 0, .null, [], none),
  (21, 1, .iconst 0, 0, 0, .int 0, [], none),
  (22, 2, .istore 5, 5, 0, .null, [], none),
  (24, 2, .iload 5, 5, 0, .null, [], none),
  (26, 1, .aload_n 0, 0, 0, .null, [], none),
  (27, 3, .getfield 32, 0, 4, .null, [], none),
  (30, 3, .getfield 147, 3, 1, .null, [], none),
  (33, 3, .if_icmp .ge 52, 85, 0, .null, [], none),
  (36, 1, .aload_n 0, 0, 0, .null, [], none),
  (37, 3, .getfield 32, 0, 4, .null, [], none),
  (40, 2, .iload 5, 5, 0, .null, [], none),
  (42, 3, .invokevirtual 150, 113, 2, .retAddr 0, [], none),
  (45, 2, .istore 6, 6, 0, .null, [], none),
  (47, 1, .aload_n 0, 0, 0, .null, [], none),
  (48, 3, .getfield 47, 0, 7, .null, [], none),
  (51, 2, .iload 6, 6, 0, .null, [], none),
  (53, 1, .iload_n 3, 3, 0, .null, [], none),
  (54, 3, .invokevirtual 221, 93, 3, .retAddr 0, [], none),
  (57, 3, .ifCond .eq 22, 79, 0, .null, [], none),
  (60, 2, .iload 4, 4, 0, .null, [], none),
  (62, 3, .ifCond .ne 14, 76, 0, .null, [], none),
  (65, 1, .aload_n 0, 0, 0, .null, [], none),
  (66, 3, .getfield 32, 0, 4, .null, [], none),
  (69, 3, .getfield 170, 3, 3, .null, [], none),
  (72, 2, .iload 6, 6, 0, .null, [], none),
  (74, 1, .iaload, 0, 0, .null, [], none),
  (75, 1, .ireturn, 0, 0, .null, [], none),
  (76, 3, .iinc 4 (-1), 4, 0, .int (-1), [], none),
  (79, 3, .iinc 5 1, 5, 0, .int 1, [], none)] : List xr_E), xr_sd xm_P 14 e := by
  have hc : xp_cd xm_P 14 = prog_1_method_15_code := rfl
  have ho : xp_own xm_P 14 = "ExchangeText" := rfl
  have hm : xp_ml xm_P 14 = 7 := rfl
  exact xl_cons (xk_aload_n hc xd_14_0 rfl) <|
    xl_cons (xk_iload_n hc xd_14_1 rfl) <|
    xl_cons (xk_callV (Y := xm_y22) ho rfl (by decide) ⟨by decide, by decide⟩ xl_52 hc xd_14_2 rfl (b' := 1) rfl xm_nd22 (T := xm_T0) (N := 11) rfl xl_106 xl_107 xl_108) <|
    xl_cons (xk_istore_n hc xd_14_5 hm rfl (by decide)) <|
    xl_cons (xk_iload_n hc xd_14_6 rfl) <|
    xl_cons (xk_ifCond hc xd_14_7 (by decide)) <|
    xl_cons (xk_iconst hc xd_14_10 (by decide)) <|
    xl_cons (xk_goto hc xd_14_11 (by decide)) <|
    xl_cons (xk_iconst hc xd_14_14 (by decide)) <|
    xl_cons (xk_callS (Y := xm_y21) ho rfl (by decide) ⟨by decide, by decide⟩ xl_52 hc xd_14_15 rfl xm_nd21 xl_103 xl_104) <|
    xl_cons (xk_iload_n hc xd_14_18 rfl) <|
    xl_cons (xk_istore hc xd_14_19 hm rfl (by decide)) <|
    xl_cons (xk_iconst hc xd_14_21 (by decide)) <|
    xl_cons (xk_istore hc xd_14_22 hm rfl (by decide)) <|
    xl_cons (xk_iload hc xd_14_24 rfl) <|
    xl_cons (xk_aload_n hc xd_14_26 rfl) <|
    xl_cons (xk_getfield (C := xm_C0) (T := xm_T0) (N := 11) hc xd_14_27 ho rfl (by decide) xm_u0 xl_19) <|
    xl_cons (xk_getfield (C := xm_C3) (T := xm_T3) (N := 11) hc xd_14_30 ho rfl (by decide) xm_u3 xl_92) <|
    xl_cons (xk_if_icmp hc xd_14_33 (by decide)) <|
    xl_cons (xk_aload_n hc xd_14_36 rfl) <|
    xl_cons (xk_getfield (C := xm_C0) (T := xm_T0) (N := 11) hc xd_14_37 ho rfl (by decide) xm_u0 xl_19) <|
    xl_cons (xk_iload hc xd_14_40 rfl) <|
    xl_cons (xk_callV (Y := xm_y113) ho rfl (by decide) ⟨by decide, by decide⟩ xl_17 hc xd_14_42 rfl (b' := 1) rfl xm_nd113 (T := xm_T3) (N := 11) rfl xl_93 xl_94 xl_95) <|
    xl_cons (xk_istore hc xd_14_45 hm rfl (by decide)) <|
    xl_cons (xk_aload_n hc xd_14_47 rfl) <|
    xl_cons (xk_getfield (C := xm_C0) (T := xm_T0) (N := 11) hc xd_14_48 ho rfl (by decide) xm_u0 xl_27) <|
    xl_cons (xk_iload hc xd_14_51 rfl) <|
    xl_cons (xk_iload_n hc xd_14_53 rfl) <|
    xl_cons (xk_callV (Y := xm_y93) ho rfl (by decide) ⟨by decide, by decide⟩ xl_24 hc xd_14_54 rfl (b' := 2) rfl xm_nd93 (T := xm_T4) (N := 6) rfl xl_140 xl_141 xl_142) <|
    xl_cons (xk_ifCond hc xd_14_57 (by decide)) <|
    xl_cons (xk_iload hc xd_14_60 rfl) <|
    xl_cons (xk_ifCond hc xd_14_62 (by decide)) <|
    xl_cons (xk_aload_n hc xd_14_65 rfl) <|
    xl_cons (xk_getfield (C := xm_C0) (T := xm_T0) (N := 11) hc xd_14_66 ho rfl (by decide) xm_u0 xl_19) <|
    xl_cons (xk_getfield (C := xm_C3) (T := xm_T3) (N := 11) hc xd_14_69 ho rfl (by decide) xm_u3 xl_105) <|
    xl_cons (xk_iload hc xd_14_72 rfl) <|
    xl_cons (xk_iaload hc xd_14_74) <|
    xl_cons (xk_ireturn hc xd_14_75) <|
    xl_cons (xk_iinc hc xd_14_76 hm rfl (by decide) (by decide)) <|
    xl_cons (xk_iinc hc xd_14_79 hm rfl (by decide) (by decide)) (xl_nil)
set_option maxRecDepth 100000 in
theorem xo_14_1 : ∀ e ∈ ([(82, 3, .goto (-58), 24, 0, .null, [], none),
  (85, 1, .iconst (-1), 0, 0, .int (-1), [], none),
  (86, 1, .ireturn, 0, 0, .null, [], none)] : List xr_E), xr_sd xm_P 14 e := by
  have hc : xp_cd xm_P 14 = prog_1_method_15_code := rfl
  have ho : xp_own xm_P 14 = "ExchangeText" := rfl
  have hm : xp_ml xm_P 14 = 7 := rfl
  exact xl_cons (xk_goto hc xd_14_82 (by decide)) <|
    xl_cons (xk_iconst hc xd_14_85 (by decide)) <|
    xl_cons (xk_ireturn hc xd_14_86) (xl_nil)
theorem xo_14 : ∀ e ∈ xm_i14, xr_sd xm_P 14 e := xl_app xo_14_0 (xo_14_1)
set_option maxRecDepth 100000 in
theorem xo_15_0 : ∀ e ∈ ([(0, 1, .iload_n 1, 1, 0, .null, [], none),
  (1, 3, .ifCond .lt 7, 8, 0, .null, [], none),
  (4, 1, .iconst 1, 0, 0, .int 1, [], none),
  (5, 3, .goto 4, 9, 0, .null, [], none),
  (8, 1, .iconst 0, 0, 0, .int 0, [], none),
  (9, 3, .invokestatic 166, 21, 1, .retAddr 2, [], none),
  (12, 1, .iload_n 1, 1, 0, .null, [], none),
  (13, 1, .istore_n 2, 2, 0, .null, [], none),
  (14, 1, .iconst 0, 0, 0, .int 0, [], none),
  (15, 1, .istore_n 3, 3, 0, .null, [], none),
  (16, 1, .iload_n 3, 3, 0, .null, [], none),
  (17, 1, .aload_n 0, 0, 0, .null, [], none),
  (18, 3, .getfield 32, 0, 4, .null, [], none),
  (21, 3, .getfield 147, 3, 1, .null, [], none),
  (24, 3, .if_icmp .ge 49, 73, 0, .null, [], none),
  (27, 1, .aload_n 0, 0, 0, .null, [], none),
  (28, 3, .getfield 32, 0, 4, .null, [], none),
  (31, 1, .iload_n 3, 3, 0, .null, [], none),
  (32, 3, .invokevirtual 150, 113, 2, .retAddr 0, [], none),
  (35, 2, .istore 4, 4, 0, .null, [], none),
  (37, 1, .aload_n 0, 0, 0, .null, [], none),
  (38, 3, .getfield 47, 0, 7, .null, [], none),
  (41, 2, .iload 4, 4, 0, .null, [], none),
  (43, 3, .invokevirtual 225, 94, 2, .retAddr 0, [], none),
  (46, 3, .ifCond .eq 21, 67, 0, .null, [], none),
  (49, 1, .iload_n 2, 2, 0, .null, [], none),
  (50, 3, .ifCond .ne 14, 64, 0, .null, [], none),
  (53, 1, .aload_n 0, 0, 0, .null, [], none),
  (54, 3, .getfield 32, 0, 4, .null, [], none),
  (57, 3, .getfield 170, 3, 3, .null, [], none),
  (60, 2, .iload 4, 4, 0, .null, [], none),
  (62, 1, .iaload, 0, 0, .null, [], none),
  (63, 1, .ireturn, 0, 0, .null, [], none),
  (64, 3, .iinc 2 (-1), 2, 0, .int (-1), [], none),
  (67, 3, .iinc 3 1, 3, 0, .int 1, [], none),
  (70, 3, .goto (-54), 16, 0, .null, [], none),
  (73, 1, .iconst (-1), 0, 0, .int (-1), [], none),
  (74, 1, .ireturn, 0, 0, .null, [], none)] : List xr_E), xr_sd xm_P 15 e := by
  have hc : xp_cd xm_P 15 = prog_1_method_16_code := rfl
  have ho : xp_own xm_P 15 = "ExchangeText" := rfl
  have hm : xp_ml xm_P 15 = 5 := rfl
  exact xl_cons (xk_iload_n hc xd_15_0 rfl) <|
    xl_cons (xk_ifCond hc xd_15_1 (by decide)) <|
    xl_cons (xk_iconst hc xd_15_4 (by decide)) <|
    xl_cons (xk_goto hc xd_15_5 (by decide)) <|
    xl_cons (xk_iconst hc xd_15_8 (by decide)) <|
    xl_cons (xk_callS (Y := xm_y21) ho rfl (by decide) ⟨by decide, by decide⟩ xl_52 hc xd_15_9 rfl xm_nd21 xl_103 xl_104) <|
    xl_cons (xk_iload_n hc xd_15_12 rfl) <|
    xl_cons (xk_istore_n hc xd_15_13 hm rfl (by decide)) <|
    xl_cons (xk_iconst hc xd_15_14 (by decide)) <|
    xl_cons (xk_istore_n hc xd_15_15 hm rfl (by decide)) <|
    xl_cons (xk_iload_n hc xd_15_16 rfl) <|
    xl_cons (xk_aload_n hc xd_15_17 rfl) <|
    xl_cons (xk_getfield (C := xm_C0) (T := xm_T0) (N := 11) hc xd_15_18 ho rfl (by decide) xm_u0 xl_19) <|
    xl_cons (xk_getfield (C := xm_C3) (T := xm_T3) (N := 11) hc xd_15_21 ho rfl (by decide) xm_u3 xl_92) <|
    xl_cons (xk_if_icmp hc xd_15_24 (by decide)) <|
    xl_cons (xk_aload_n hc xd_15_27 rfl) <|
    xl_cons (xk_getfield (C := xm_C0) (T := xm_T0) (N := 11) hc xd_15_28 ho rfl (by decide) xm_u0 xl_19) <|
    xl_cons (xk_iload_n hc xd_15_31 rfl) <|
    xl_cons (xk_callV (Y := xm_y113) ho rfl (by decide) ⟨by decide, by decide⟩ xl_17 hc xd_15_32 rfl (b' := 1) rfl xm_nd113 (T := xm_T3) (N := 11) rfl xl_93 xl_94 xl_95) <|
    xl_cons (xk_istore hc xd_15_35 hm rfl (by decide)) <|
    xl_cons (xk_aload_n hc xd_15_37 rfl) <|
    xl_cons (xk_getfield (C := xm_C0) (T := xm_T0) (N := 11) hc xd_15_38 ho rfl (by decide) xm_u0 xl_27) <|
    xl_cons (xk_iload hc xd_15_41 rfl) <|
    xl_cons (xk_callV (Y := xm_y94) ho rfl (by decide) ⟨by decide, by decide⟩ xl_24 hc xd_15_43 rfl (b' := 1) rfl xm_nd94 (T := xm_T4) (N := 6) rfl xl_143 xl_144 xl_145) <|
    xl_cons (xk_ifCond hc xd_15_46 (by decide)) <|
    xl_cons (xk_iload_n hc xd_15_49 rfl) <|
    xl_cons (xk_ifCond hc xd_15_50 (by decide)) <|
    xl_cons (xk_aload_n hc xd_15_53 rfl) <|
    xl_cons (xk_getfield (C := xm_C0) (T := xm_T0) (N := 11) hc xd_15_54 ho rfl (by decide) xm_u0 xl_19) <|
    xl_cons (xk_getfield (C := xm_C3) (T := xm_T3) (N := 11) hc xd_15_57 ho rfl (by decide) xm_u3 xl_105) <|
    xl_cons (xk_iload hc xd_15_60 rfl) <|
    xl_cons (xk_iaload hc xd_15_62) <|
    xl_cons (xk_ireturn hc xd_15_63) <|
    xl_cons (xk_iinc hc xd_15_64 hm rfl (by decide) (by decide)) <|
    xl_cons (xk_iinc hc xd_15_67 hm rfl (by decide) (by decide)) <|
    xl_cons (xk_goto hc xd_15_70 (by decide)) <|
    xl_cons (xk_iconst hc xd_15_73 (by decide)) <|
    xl_cons (xk_ireturn hc xd_15_74) (xl_nil)
theorem xo_15 : ∀ e ∈ xm_i15, xr_sd xm_P 15 e := xo_15_0
set_option maxRecDepth 100000 in
theorem xo_16_0 : ∀ e ∈ ([(0, 1, .aload_n 0, 0, 0, .null, [], none),
  (1, 1, .iload_n 1, 1, 0, .null, [], none),
  (2, 3, .invokevirtual 174, 22, 2, .retAddr 0, [], none),
  (5, 1, .istore_n 3, 3, 0, .null, [], none),
  (6, 1, .iload_n 2, 2, 0, .null, [], none),
  (7, 3, .ifCond .lt 12, 19, 0, .null, [], none),
  (10, 1, .iload_n 2, 2, 0, .null, [], none),
  (11, 1, .iconst 3, 0, 0, .int 3, [], none),
  (12, 3, .if_icmp .ge 7, 19, 0, .null, [], none),
  (15, 1, .iconst 1, 0, 0, .int 1, [], none),
  (16, 3, .goto 4, 20, 0, .null, [], none),
  (19, 1, .iconst 0, 0, 0, .int 0, [], none),
  (20, 3, .invokestatic 166, 21, 1, .retAddr 2, [], none),
  (23, 1, .aload_n 0, 0, 0, .null, [], none),
  (24, 3, .getfield 32, 0, 4, .null, [], none),
  (27, 1, .iload_n 3, 3, 0, .null, [], none),
  (28, 3, .invokevirtual 229, 124, 2, .retAddr 0, [], none),
  (31, 3, .invokestatic 166, 21, 1, .retAddr 2, [], none),
  (34, 1, .lconst 0, 0, 0, .long 0, [], none),
  (35, 2, .lstore 4, 4, 0, .null, [], none),
  (37, 1, .iconst 0, 0, 0, .int 0, [], none),
  (38, 2, .istore 6, 6, 0, .null, [], none),
  (40, 2, .iload 6, 6, 0, .null, [], none),
  (42, 1, .aload_n 0, 0, 0, .null, [], none),
  (43, 3, .getfield 32, 0, 4, .null, [], none),
  (46, 3, .getfield 147, 3, 1, .null, [], none),
  (49, 3, .if_icmp .ge 51, 100, 0, .null, [], none),
  (52, 2, .lload 4, 4, 0, .null, [], none),
  (54, 1, .aload_n 0, 0, 0, .null, [], none),
  (55, 3, .getfield 32, 0, 4, .null, [], none),
  (58, 3, .getfield 201, 3, 8, .null, [], none),
  (61, 1, .iload_n 3, 3, 0, .null, [], none),
  (62, 2, .bipush 8, 0, 0, .int 8, [], none),
  (64, 1, .imul, 0, 0, .null, [], none),
  (65, 1, .iload_n 2, 2, 0, .null, [], none),
  (66, 1, .iadd, 0, 0, .null, [], none),
  (67, 1, .iaload, 0, 0, .null, [], none),
  (68, 1, .i2l, 0, 0, .null, [], none),
  (69, 1, .ladd, 0, 0, .null, [], none),
  (70, 2, .lstore 4, 4, 0, .null, [], none)] : List xr_E), xr_sd xm_P 16 e := by
  have hc : xp_cd xm_P 16 = prog_1_method_17_code := rfl
  have ho : xp_own xm_P 16 = "ExchangeText" := rfl
  have hm : xp_ml xm_P 16 = 8 := rfl
  exact xl_cons (xk_aload_n hc xd_16_0 rfl) <|
    xl_cons (xk_iload_n hc xd_16_1 rfl) <|
    xl_cons (xk_callV (Y := xm_y22) ho rfl (by decide) ⟨by decide, by decide⟩ xl_52 hc xd_16_2 rfl (b' := 1) rfl xm_nd22 (T := xm_T0) (N := 11) rfl xl_106 xl_107 xl_108) <|
    xl_cons (xk_istore_n hc xd_16_5 hm rfl (by decide)) <|
    xl_cons (xk_iload_n hc xd_16_6 rfl) <|
    xl_cons (xk_ifCond hc xd_16_7 (by decide)) <|
    xl_cons (xk_iload_n hc xd_16_10 rfl) <|
    xl_cons (xk_iconst hc xd_16_11 (by decide)) <|
    xl_cons (xk_if_icmp hc xd_16_12 (by decide)) <|
    xl_cons (xk_iconst hc xd_16_15 (by decide)) <|
    xl_cons (xk_goto hc xd_16_16 (by decide)) <|
    xl_cons (xk_iconst hc xd_16_19 (by decide)) <|
    xl_cons (xk_callS (Y := xm_y21) ho rfl (by decide) ⟨by decide, by decide⟩ xl_52 hc xd_16_20 rfl xm_nd21 xl_103 xl_104) <|
    xl_cons (xk_aload_n hc xd_16_23 rfl) <|
    xl_cons (xk_getfield (C := xm_C0) (T := xm_T0) (N := 11) hc xd_16_24 ho rfl (by decide) xm_u0 xl_19) <|
    xl_cons (xk_iload_n hc xd_16_27 rfl) <|
    xl_cons (xk_callV (Y := xm_y124) ho rfl (by decide) ⟨by decide, by decide⟩ xl_17 hc xd_16_28 rfl (b' := 1) rfl xm_nd124 (T := xm_T3) (N := 11) rfl xl_146 xl_147 xl_148) <|
    xl_cons (xk_callS (Y := xm_y21) ho rfl (by decide) ⟨by decide, by decide⟩ xl_52 hc xd_16_31 rfl xm_nd21 xl_103 xl_104) <|
    xl_cons (xk_lconst hc xd_16_34 rfl) <|
    xl_cons (xk_lstore hc xd_16_35 hm rfl (by decide)) <|
    xl_cons (xk_iconst hc xd_16_37 (by decide)) <|
    xl_cons (xk_istore hc xd_16_38 hm rfl (by decide)) <|
    xl_cons (xk_iload hc xd_16_40 rfl) <|
    xl_cons (xk_aload_n hc xd_16_42 rfl) <|
    xl_cons (xk_getfield (C := xm_C0) (T := xm_T0) (N := 11) hc xd_16_43 ho rfl (by decide) xm_u0 xl_19) <|
    xl_cons (xk_getfield (C := xm_C3) (T := xm_T3) (N := 11) hc xd_16_46 ho rfl (by decide) xm_u3 xl_92) <|
    xl_cons (xk_if_icmp hc xd_16_49 (by decide)) <|
    xl_cons (xk_lload hc xd_16_52 rfl) <|
    xl_cons (xk_aload_n hc xd_16_54 rfl) <|
    xl_cons (xk_getfield (C := xm_C0) (T := xm_T0) (N := 11) hc xd_16_55 ho rfl (by decide) xm_u0 xl_19) <|
    xl_cons (xk_getfield (C := xm_C3) (T := xm_T3) (N := 11) hc xd_16_58 ho rfl (by decide) xm_u3 xl_122) <|
    xl_cons (xk_iload_n hc xd_16_61 rfl) <|
    xl_cons (xk_bipush hc xd_16_62 (by decide)) <|
    xl_cons (xk_imul hc xd_16_64) <|
    xl_cons (xk_iload_n hc xd_16_65 rfl) <|
    xl_cons (xk_iadd hc xd_16_66) <|
    xl_cons (xk_iaload hc xd_16_67) <|
    xl_cons (xk_i2l hc xd_16_68) <|
    xl_cons (xk_ladd hc xd_16_69) <|
    xl_cons (xk_lstore hc xd_16_70 hm rfl (by decide)) (xl_nil)
set_option maxRecDepth 100000 in
theorem xo_16_1 : ∀ e ∈ ([(72, 1, .aload_n 0, 0, 0, .null, [], none),
  (73, 3, .getfield 32, 0, 4, .null, [], none),
  (76, 1, .iload_n 3, 3, 0, .null, [], none),
  (77, 3, .invokevirtual 232, 125, 2, .retAddr 0, [], none),
  (80, 2, .istore 7, 7, 0, .null, [], none),
  (82, 2, .iload 7, 7, 0, .null, [], none),
  (84, 1, .iconst (-1), 0, 0, .int (-1), [], none),
  (85, 3, .if_icmp .ne 6, 91, 0, .null, [], none),
  (88, 2, .lload 4, 4, 0, .null, [], none),
  (90, 1, .lreturn, 0, 0, .null, [], none),
  (91, 2, .iload 7, 7, 0, .null, [], none),
  (93, 1, .istore_n 3, 3, 0, .null, [], none),
  (94, 3, .iinc 6 1, 6, 0, .int 1, [], none),
  (97, 3, .goto (-57), 40, 0, .null, [], none),
  (100, 3, .ldc2_w 235, 0, 0, .long 1000000000000, [], none),
  (103, 1, .lreturn, 0, 0, .null, [], none)] : List xr_E), xr_sd xm_P 16 e := by
  have hc : xp_cd xm_P 16 = prog_1_method_17_code := rfl
  have ho : xp_own xm_P 16 = "ExchangeText" := rfl
  have hm : xp_ml xm_P 16 = 8 := rfl
  exact xl_cons (xk_aload_n hc xd_16_72 rfl) <|
    xl_cons (xk_getfield (C := xm_C0) (T := xm_T0) (N := 11) hc xd_16_73 ho rfl (by decide) xm_u0 xl_19) <|
    xl_cons (xk_iload_n hc xd_16_76 rfl) <|
    xl_cons (xk_callV (Y := xm_y125) ho rfl (by decide) ⟨by decide, by decide⟩ xl_17 hc xd_16_77 rfl (b' := 1) rfl xm_nd125 (T := xm_T3) (N := 11) rfl xl_149 xl_150 xl_151) <|
    xl_cons (xk_istore hc xd_16_80 hm rfl (by decide)) <|
    xl_cons (xk_iload hc xd_16_82 rfl) <|
    xl_cons (xk_iconst hc xd_16_84 (by decide)) <|
    xl_cons (xk_if_icmp hc xd_16_85 (by decide)) <|
    xl_cons (xk_lload hc xd_16_88 rfl) <|
    xl_cons (xk_lreturn hc xd_16_90) <|
    xl_cons (xk_iload hc xd_16_91 rfl) <|
    xl_cons (xk_istore_n hc xd_16_93 hm rfl (by decide)) <|
    xl_cons (xk_iinc hc xd_16_94 hm rfl (by decide) (by decide)) <|
    xl_cons (xk_goto hc xd_16_97 (by decide)) <|
    xl_cons (xk_ldc2 hc xd_16_100 ho rfl xl_152) <|
    xl_cons (xk_lreturn hc xd_16_103) (xl_nil)
theorem xo_16 : ∀ e ∈ xm_i16, xr_sd xm_P 16 e := xl_app xo_16_0 (xo_16_1)
set_option maxRecDepth 100000 in
theorem xo_17_0 : ∀ e ∈ ([(0, 1, .aload_n 0, 0, 0, .null, [], none),
  (1, 1, .iload_n 1, 1, 0, .null, [], none),
  (2, 3, .invokevirtual 174, 22, 2, .retAddr 0, [], none),
  (5, 1, .pop, 0, 0, .null, [], none),
  (6, 1, .aload_n 0, 0, 0, .null, [], none),
  (7, 1, .iload_n 2, 2, 0, .null, [], none),
  (8, 3, .invokevirtual 174, 22, 2, .retAddr 0, [], none),
  (11, 1, .pop, 0, 0, .null, [], none),
  (12, 1, .aload_n 0, 0, 0, .null, [], none),
  (13, 3, .getfield 47, 0, 7, .null, [], none),
  (16, 3, .invokevirtual 237, 100, 1, .retAddr 0, [], none),
  (19, 1, .aload_n 0, 0, 0, .null, [], none),
  (20, 3, .getfield 47, 0, 7, .null, [], none),
  (23, 3, .getfield 240, 4, 4, .null, [], none),
  (26, 1, .iload_n 1, 1, 0, .null, [], none),
  (27, 3, .invokevirtual 243, 109, 2, .retAddr 0, [], none),
  (30, 1, .aload_n 0, 0, 0, .null, [], none),
  (31, 3, .getfield 47, 0, 7, .null, [], none),
  (34, 3, .getfield 240, 4, 4, .null, [], none),
  (37, 1, .iload_n 2, 2, 0, .null, [], none),
  (38, 3, .invokevirtual 243, 109, 2, .retAddr 0, [], none),
  (41, 3, .if_icmp .ne 7, 48, 0, .null, [], none),
  (44, 1, .iconst 1, 0, 0, .int 1, [], none),
  (45, 3, .goto 4, 49, 0, .null, [], none),
  (48, 1, .iconst 0, 0, 0, .int 0, [], none),
  (49, 1, .ireturn, 0, 0, .null, [], none)] : List xr_E), xr_sd xm_P 17 e := by
  have hc : xp_cd xm_P 17 = prog_1_method_18_code := rfl
  have ho : xp_own xm_P 17 = "ExchangeText" := rfl
  have hm : xp_ml xm_P 17 = 3 := rfl
  exact xl_cons (xk_aload_n hc xd_17_0 rfl) <|
    xl_cons (xk_iload_n hc xd_17_1 rfl) <|
    xl_cons (xk_callV (Y := xm_y22) ho rfl (by decide) ⟨by decide, by decide⟩ xl_52 hc xd_17_2 rfl (b' := 1) rfl xm_nd22 (T := xm_T0) (N := 11) rfl xl_106 xl_107 xl_108) <|
    xl_cons (xk_pop hc xd_17_5) <|
    xl_cons (xk_aload_n hc xd_17_6 rfl) <|
    xl_cons (xk_iload_n hc xd_17_7 rfl) <|
    xl_cons (xk_callV (Y := xm_y22) ho rfl (by decide) ⟨by decide, by decide⟩ xl_52 hc xd_17_8 rfl (b' := 1) rfl xm_nd22 (T := xm_T0) (N := 11) rfl xl_106 xl_107 xl_108) <|
    xl_cons (xk_pop hc xd_17_11) <|
    xl_cons (xk_aload_n hc xd_17_12 rfl) <|
    xl_cons (xk_getfield (C := xm_C0) (T := xm_T0) (N := 11) hc xd_17_13 ho rfl (by decide) xm_u0 xl_27) <|
    xl_cons (xk_callV (Y := xm_y100) ho rfl (by decide) ⟨by decide, by decide⟩ xl_24 hc xd_17_16 rfl (b' := 0) rfl xm_nd100 (T := xm_T4) (N := 6) rfl xl_153 xl_154 xl_155) <|
    xl_cons (xk_aload_n hc xd_17_19 rfl) <|
    xl_cons (xk_getfield (C := xm_C0) (T := xm_T0) (N := 11) hc xd_17_20 ho rfl (by decide) xm_u0 xl_27) <|
    xl_cons (xk_getfield (C := xm_C4) (T := xm_T4) (N := 6) hc xd_17_23 ho rfl (by decide) xm_u4 xl_156) <|
    xl_cons (xk_iload_n hc xd_17_26 rfl) <|
    xl_cons (xk_callV (Y := xm_y109) ho rfl (by decide) ⟨by decide, by decide⟩ xl_30 hc xd_17_27 rfl (b' := 1) rfl xm_nd109 (T := xm_T5) (N := 1) rfl xl_157 xl_158 xl_159) <|
    xl_cons (xk_aload_n hc xd_17_30 rfl) <|
    xl_cons (xk_getfield (C := xm_C0) (T := xm_T0) (N := 11) hc xd_17_31 ho rfl (by decide) xm_u0 xl_27) <|
    xl_cons (xk_getfield (C := xm_C4) (T := xm_T4) (N := 6) hc xd_17_34 ho rfl (by decide) xm_u4 xl_156) <|
    xl_cons (xk_iload_n hc xd_17_37 rfl) <|
    xl_cons (xk_callV (Y := xm_y109) ho rfl (by decide) ⟨by decide, by decide⟩ xl_30 hc xd_17_38 rfl (b' := 1) rfl xm_nd109 (T := xm_T5) (N := 1) rfl xl_157 xl_158 xl_159) <|
    xl_cons (xk_if_icmp hc xd_17_41 (by decide)) <|
    xl_cons (xk_iconst hc xd_17_44 (by decide)) <|
    xl_cons (xk_goto hc xd_17_45 (by decide)) <|
    xl_cons (xk_iconst hc xd_17_48 (by decide)) <|
    xl_cons (xk_ireturn hc xd_17_49) (xl_nil)
theorem xo_17 : ∀ e ∈ xm_i17, xr_sd xm_P 17 e := xo_17_0
set_option maxRecDepth 100000 in
theorem xo_18_0 : ∀ e ∈ ([(0, 1, .aload_n 0, 0, 0, .null, [], none),
  (1, 3, .getfield 47, 0, 7, .null, [], none),
  (4, 3, .invokevirtual 237, 100, 1, .retAddr 0, [], none),
  (7, 1, .aload_n 0, 0, 0, .null, [], none),
  (8, 3, .getfield 32, 0, 4, .null, [], none),
  (11, 3, .getfield 147, 3, 1, .null, [], none),
  (14, 1, .istore_n 1, 1, 0, .null, [], none),
  (15, 1, .aload_n 0, 0, 0, .null, [], none),
  (16, 3, .getfield 32, 0, 4, .null, [], none),
  (19, 1, .aload_n 0, 0, 0, .null, [], none),
  (20, 3, .getfield 47, 0, 7, .null, [], none),
  (23, 3, .getfield 240, 4, 4, .null, [], none),
  (26, 3, .invokevirtual 246, 128, 2, .retAddr 0, [], none),
  (29, 1, .aload_n 0, 0, 0, .null, [], none),
  (30, 3, .getfield 47, 0, 7, .null, [], none),
  (33, 3, .invokevirtual 144, 91, 1, .retAddr 0, [], none),
  (36, 1, .iload_n 1, 1, 0, .null, [], none),
  (37, 1, .aload_n 0, 0, 0, .null, [], none),
  (38, 3, .getfield 32, 0, 4, .null, [], none),
  (41, 3, .getfield 147, 3, 1, .null, [], none),
  (44, 1, .isub, 0, 0, .null, [], none),
  (45, 1, .ireturn, 0, 0, .null, [], none)] : List xr_E), xr_sd xm_P 18 e := by
  have hc : xp_cd xm_P 18 = prog_1_method_19_code := rfl
  have ho : xp_own xm_P 18 = "ExchangeText" := rfl
  have hm : xp_ml xm_P 18 = 2 := rfl
  exact xl_cons (xk_aload_n hc xd_18_0 rfl) <|
    xl_cons (xk_getfield (C := xm_C0) (T := xm_T0) (N := 11) hc xd_18_1 ho rfl (by decide) xm_u0 xl_27) <|
    xl_cons (xk_callV (Y := xm_y100) ho rfl (by decide) ⟨by decide, by decide⟩ xl_24 hc xd_18_4 rfl (b' := 0) rfl xm_nd100 (T := xm_T4) (N := 6) rfl xl_153 xl_154 xl_155) <|
    xl_cons (xk_aload_n hc xd_18_7 rfl) <|
    xl_cons (xk_getfield (C := xm_C0) (T := xm_T0) (N := 11) hc xd_18_8 ho rfl (by decide) xm_u0 xl_19) <|
    xl_cons (xk_getfield (C := xm_C3) (T := xm_T3) (N := 11) hc xd_18_11 ho rfl (by decide) xm_u3 xl_92) <|
    xl_cons (xk_istore_n hc xd_18_14 hm rfl (by decide)) <|
    xl_cons (xk_aload_n hc xd_18_15 rfl) <|
    xl_cons (xk_getfield (C := xm_C0) (T := xm_T0) (N := 11) hc xd_18_16 ho rfl (by decide) xm_u0 xl_19) <|
    xl_cons (xk_aload_n hc xd_18_19 rfl) <|
    xl_cons (xk_getfield (C := xm_C0) (T := xm_T0) (N := 11) hc xd_18_20 ho rfl (by decide) xm_u0 xl_27) <|
    xl_cons (xk_getfield (C := xm_C4) (T := xm_T4) (N := 6) hc xd_18_23 ho rfl (by decide) xm_u4 xl_156) <|
    xl_cons (xk_callV (Y := xm_y128) ho rfl (by decide) ⟨by decide, by decide⟩ xl_17 hc xd_18_26 rfl (b' := 1) rfl xm_nd128 (T := xm_T3) (N := 11) rfl xl_160 xl_161 xl_162) <|
    xl_cons (xk_aload_n hc xd_18_29 rfl) <|
    xl_cons (xk_getfield (C := xm_C0) (T := xm_T0) (N := 11) hc xd_18_30 ho rfl (by decide) xm_u0 xl_27) <|
    xl_cons (xk_callV (Y := xm_y91) ho rfl (by decide) ⟨by decide, by decide⟩ xl_24 hc xd_18_33 rfl (b' := 0) rfl xm_nd91 (T := xm_T4) (N := 6) rfl xl_89 xl_90 xl_91) <|
    xl_cons (xk_iload_n hc xd_18_36 rfl) <|
    xl_cons (xk_aload_n hc xd_18_37 rfl) <|
    xl_cons (xk_getfield (C := xm_C0) (T := xm_T0) (N := 11) hc xd_18_38 ho rfl (by decide) xm_u0 xl_19) <|
    xl_cons (xk_getfield (C := xm_C3) (T := xm_T3) (N := 11) hc xd_18_41 ho rfl (by decide) xm_u3 xl_92) <|
    xl_cons (xk_isub hc xd_18_44) <|
    xl_cons (xk_ireturn hc xd_18_45) (xl_nil)
theorem xo_18 : ∀ e ∈ xm_i18, xr_sd xm_P 18 e := xo_18_0
set_option maxRecDepth 100000 in
theorem xo_19_0 : ∀ e ∈ ([(0, 1, .iload_n 1, 1, 0, .null, [], none),
  (1, 3, .ifCond .lt 16, 17, 0, .null, [], none),
  (4, 1, .iload_n 2, 2, 0, .null, [], none),
  (5, 3, .ifCond .eq 8, 13, 0, .null, [], none),
  (8, 1, .iload_n 2, 2, 0, .null, [], none),
  (9, 1, .iconst 1, 0, 0, .int 1, [], none),
  (10, 3, .if_icmp .ne 7, 17, 0, .null, [], none),
  (13, 1, .iconst 1, 0, 0, .int 1, [], none),
  (14, 3, .goto 4, 18, 0, .null, [], none),
  (17, 1, .iconst 0, 0, 0, .int 0, [], none),
  (18, 3, .invokestatic 166, 21, 1, .retAddr 2, [], none),
  (21, 1, .iload_n 1, 1, 0, .null, [], none),
  (22, 1, .istore_n 3, 3, 0, .null, [], none),
  (23, 1, .iconst 0, 0, 0, .int 0, [], none),
  (24, 2, .istore 4, 4, 0, .null, [], none),
  (26, 1, .iconst 0, 0, 0, .int 0, [], none),
  (27, 2, .istore 5, 5, 0, .null, [], none),
  (29, 1, .iconst 0, 0, 0, .int 0, [], none),
  (30, 2, .istore 6, 6, 0, .null, [], none),
  (32, 2, .iload 6, 6, 0, .null, [], none),
  (34, 2, .bipush 80, 0, 0, .int 80, [], none),
  (36, 3, .if_icmp .ge 157, 193, 0, .null, [], none),
  (39, 2, .iload 4, 4, 0, .null, [], none),
  (41, 1, .aload_n 0, 0, 0, .null, [], none),
  (42, 3, .getfield 32, 0, 4, .null, [], none),
  (45, 3, .getfield 147, 3, 1, .null, [], none),
  (48, 3, .if_icmp .lt 15, 63, 0, .null, [], none),
  (51, 2, .iload 5, 5, 0, .null, [], none),
  (53, 1, .aload_n 0, 0, 0, .null, [], none),
  (54, 3, .getfield 39, 0, 6, .null, [], none),
  (57, 3, .getfield 147, 3, 1, .null, [], none),
  (60, 3, .if_icmp .ge 133, 193, 0, .null, [], none),
  (63, 1, .aload_n 0, 0, 0, .null, [], none),
  (64, 3, .getfield 32, 0, 4, .null, [], none),
  (67, 2, .iload 4, 4, 0, .null, [], none),
  (69, 3, .invokevirtual 150, 113, 2, .retAddr 0, [], none),
  (72, 2, .istore 7, 7, 0, .null, [], none),
  (74, 1, .aload_n 0, 0, 0, .null, [], none),
  (75, 3, .getfield 39, 0, 6, .null, [], none),
  (78, 2, .iload 5, 5, 0, .null, [], none)] : List xr_E), xr_sd xm_P 19 e := by
  have hc : xp_cd xm_P 19 = prog_1_method_20_code := rfl
  have ho : xp_own xm_P 19 = "ExchangeText" := rfl
  have hm : xp_ml xm_P 19 = 10 := rfl
  exact xl_cons (xk_iload_n hc xd_19_0 rfl) <|
    xl_cons (xk_ifCond hc xd_19_1 (by decide)) <|
    xl_cons (xk_iload_n hc xd_19_4 rfl) <|
    xl_cons (xk_ifCond hc xd_19_5 (by decide)) <|
    xl_cons (xk_iload_n hc xd_19_8 rfl) <|
    xl_cons (xk_iconst hc xd_19_9 (by decide)) <|
    xl_cons (xk_if_icmp hc xd_19_10 (by decide)) <|
    xl_cons (xk_iconst hc xd_19_13 (by decide)) <|
    xl_cons (xk_goto hc xd_19_14 (by decide)) <|
    xl_cons (xk_iconst hc xd_19_17 (by decide)) <|
    xl_cons (xk_callS (Y := xm_y21) ho rfl (by decide) ⟨by decide, by decide⟩ xl_52 hc xd_19_18 rfl xm_nd21 xl_103 xl_104) <|
    xl_cons (xk_iload_n hc xd_19_21 rfl) <|
    xl_cons (xk_istore_n hc xd_19_22 hm rfl (by decide)) <|
    xl_cons (xk_iconst hc xd_19_23 (by decide)) <|
    xl_cons (xk_istore hc xd_19_24 hm rfl (by decide)) <|
    xl_cons (xk_iconst hc xd_19_26 (by decide)) <|
    xl_cons (xk_istore hc xd_19_27 hm rfl (by decide)) <|
    xl_cons (xk_iconst hc xd_19_29 (by decide)) <|
    xl_cons (xk_istore hc xd_19_30 hm rfl (by decide)) <|
    xl_cons (xk_iload hc xd_19_32 rfl) <|
    xl_cons (xk_bipush hc xd_19_34 (by decide)) <|
    xl_cons (xk_if_icmp hc xd_19_36 (by decide)) <|
    xl_cons (xk_iload hc xd_19_39 rfl) <|
    xl_cons (xk_aload_n hc xd_19_41 rfl) <|
    xl_cons (xk_getfield (C := xm_C0) (T := xm_T0) (N := 11) hc xd_19_42 ho rfl (by decide) xm_u0 xl_19) <|
    xl_cons (xk_getfield (C := xm_C3) (T := xm_T3) (N := 11) hc xd_19_45 ho rfl (by decide) xm_u3 xl_92) <|
    xl_cons (xk_if_icmp hc xd_19_48 (by decide)) <|
    xl_cons (xk_iload hc xd_19_51 rfl) <|
    xl_cons (xk_aload_n hc xd_19_53 rfl) <|
    xl_cons (xk_getfield (C := xm_C0) (T := xm_T0) (N := 11) hc xd_19_54 ho rfl (by decide) xm_u0 xl_21) <|
    xl_cons (xk_getfield (C := xm_C3) (T := xm_T3) (N := 11) hc xd_19_57 ho rfl (by decide) xm_u3 xl_92) <|
    xl_cons (xk_if_icmp hc xd_19_60 (by decide)) <|
    xl_cons (xk_aload_n hc xd_19_63 rfl) <|
    xl_cons (xk_getfield (C := xm_C0) (T := xm_T0) (N := 11) hc xd_19_64 ho rfl (by decide) xm_u0 xl_19) <|
    xl_cons (xk_iload hc xd_19_67 rfl) <|
    xl_cons (xk_callV (Y := xm_y113) ho rfl (by decide) ⟨by decide, by decide⟩ xl_17 hc xd_19_69 rfl (b' := 1) rfl xm_nd113 (T := xm_T3) (N := 11) rfl xl_93 xl_94 xl_95) <|
    xl_cons (xk_istore hc xd_19_72 hm rfl (by decide)) <|
    xl_cons (xk_aload_n hc xd_19_74 rfl) <|
    xl_cons (xk_getfield (C := xm_C0) (T := xm_T0) (N := 11) hc xd_19_75 ho rfl (by decide) xm_u0 xl_21) <|
    xl_cons (xk_iload hc xd_19_78 rfl) (xl_nil)
set_option maxRecDepth 100000 in
theorem xo_19_1 : ∀ e ∈ ([(80, 3, .invokevirtual 150, 113, 2, .retAddr 0, [], none),
  (83, 2, .istore 8, 8, 0, .null, [], none),
  (85, 1, .aload_n 0, 0, 0, .null, [], none),
  (86, 2, .iload 7, 7, 0, .null, [], none),
  (88, 2, .iload 8, 8, 0, .null, [], none),
  (90, 3, .invokevirtual 250, 26, 3, .retAddr 0, [], none),
  (93, 2, .istore 9, 9, 0, .null, [], none),
  (95, 2, .iload 9, 9, 0, .null, [], none),
  (97, 3, .ifCond .eq 45, 142, 0, .null, [], none),
  (100, 1, .iload_n 3, 3, 0, .null, [], none),
  (101, 3, .ifCond .ne 41, 142, 0, .null, [], none),
  (104, 1, .iload_n 2, 2, 0, .null, [], none),
  (105, 1, .iconst 1, 0, 0, .int 1, [], none),
  (106, 3, .if_icmp .ne 6, 112, 0, .null, [], none),
  (109, 2, .iload 9, 9, 0, .null, [], none),
  (111, 1, .ireturn, 0, 0, .null, [], none),
  (112, 2, .iload 9, 9, 0, .null, [], none),
  (114, 1, .iconst 1, 0, 0, .int 1, [], none),
  (115, 3, .if_icmp .ne 16, 131, 0, .null, [], none),
  (118, 1, .aload_n 0, 0, 0, .null, [], none),
  (119, 3, .getfield 39, 0, 6, .null, [], none),
  (122, 3, .getfield 170, 3, 3, .null, [], none),
  (125, 2, .iload 8, 8, 0, .null, [], none),
  (127, 1, .iaload, 0, 0, .null, [], none),
  (128, 3, .goto 13, 141, 0, .null, [], none),
  (131, 1, .aload_n 0, 0, 0, .null, [], none),
  (132, 3, .getfield 32, 0, 4, .null, [], none),
  (135, 3, .getfield 170, 3, 3, .null, [], none),
  (138, 2, .iload 7, 7, 0, .null, [], none),
  (140, 1, .iaload, 0, 0, .null, [], none),
  (141, 1, .ireturn, 0, 0, .null, [], none),
  (142, 1, .iload_n 3, 3, 0, .null, [], none),
  (143, 2, .iload 9, 9, 0, .null, [], none),
  (145, 3, .ifCond .eq 7, 152, 0, .null, [], none),
  (148, 1, .iconst 1, 0, 0, .int 1, [], none),
  (149, 3, .goto 4, 153, 0, .null, [], none),
  (152, 1, .iconst 0, 0, 0, .int 0, [], none),
  (153, 1, .isub, 0, 0, .null, [], none),
  (154, 1, .istore_n 3, 3, 0, .null, [], none),
  (155, 2, .iload 4, 4, 0, .null, [], none)] : List xr_E), xr_sd xm_P 19 e := by
  have hc : xp_cd xm_P 19 = prog_1_method_20_code := rfl
  have ho : xp_own xm_P 19 = "ExchangeText" := rfl
  have hm : xp_ml xm_P 19 = 10 := rfl
  exact xl_cons (xk_callV (Y := xm_y113) ho rfl (by decide) ⟨by decide, by decide⟩ xl_17 hc xd_19_80 rfl (b' := 1) rfl xm_nd113 (T := xm_T3) (N := 11) rfl xl_93 xl_94 xl_95) <|
    xl_cons (xk_istore hc xd_19_83 hm rfl (by decide)) <|
    xl_cons (xk_aload_n hc xd_19_85 rfl) <|
    xl_cons (xk_iload hc xd_19_86 rfl) <|
    xl_cons (xk_iload hc xd_19_88 rfl) <|
    xl_cons (xk_callV (Y := xm_y26) ho rfl (by decide) ⟨by decide, by decide⟩ xl_52 hc xd_19_90 rfl (b' := 2) rfl xm_nd26 (T := xm_T0) (N := 11) rfl xl_163 xl_164 xl_165) <|
    xl_cons (xk_istore hc xd_19_93 hm rfl (by decide)) <|
    xl_cons (xk_iload hc xd_19_95 rfl) <|
    xl_cons (xk_ifCond hc xd_19_97 (by decide)) <|
    xl_cons (xk_iload_n hc xd_19_100 rfl) <|
    xl_cons (xk_ifCond hc xd_19_101 (by decide)) <|
    xl_cons (xk_iload_n hc xd_19_104 rfl) <|
    xl_cons (xk_iconst hc xd_19_105 (by decide)) <|
    xl_cons (xk_if_icmp hc xd_19_106 (by decide)) <|
    xl_cons (xk_iload hc xd_19_109 rfl) <|
    xl_cons (xk_ireturn hc xd_19_111) <|
    xl_cons (xk_iload hc xd_19_112 rfl) <|
    xl_cons (xk_iconst hc xd_19_114 (by decide)) <|
    xl_cons (xk_if_icmp hc xd_19_115 (by decide)) <|
    xl_cons (xk_aload_n hc xd_19_118 rfl) <|
    xl_cons (xk_getfield (C := xm_C0) (T := xm_T0) (N := 11) hc xd_19_119 ho rfl (by decide) xm_u0 xl_21) <|
    xl_cons (xk_getfield (C := xm_C3) (T := xm_T3) (N := 11) hc xd_19_122 ho rfl (by decide) xm_u3 xl_105) <|
    xl_cons (xk_iload hc xd_19_125 rfl) <|
    xl_cons (xk_iaload hc xd_19_127) <|
    xl_cons (xk_goto hc xd_19_128 (by decide)) <|
    xl_cons (xk_aload_n hc xd_19_131 rfl) <|
    xl_cons (xk_getfield (C := xm_C0) (T := xm_T0) (N := 11) hc xd_19_132 ho rfl (by decide) xm_u0 xl_19) <|
    xl_cons (xk_getfield (C := xm_C3) (T := xm_T3) (N := 11) hc xd_19_135 ho rfl (by decide) xm_u3 xl_105) <|
    xl_cons (xk_iload hc xd_19_138 rfl) <|
    xl_cons (xk_iaload hc xd_19_140) <|
    xl_cons (xk_ireturn hc xd_19_141) <|
    xl_cons (xk_iload_n hc xd_19_142 rfl) <|
    xl_cons (xk_iload hc xd_19_143 rfl) <|
    xl_cons (xk_ifCond hc xd_19_145 (by decide)) <|
    xl_cons (xk_iconst hc xd_19_148 (by decide)) <|
    xl_cons (xk_goto hc xd_19_149 (by decide)) <|
    xl_cons (xk_iconst hc xd_19_152 (by decide)) <|
    xl_cons (xk_isub hc xd_19_153) <|
    xl_cons (xk_istore_n hc xd_19_154 hm rfl (by decide)) <|
    xl_cons (xk_iload hc xd_19_155 rfl) (xl_nil)
set_option maxRecDepth 100000 in
theorem xo_19_2 : ∀ e ∈ ([(157, 2, .iload 9, 9, 0, .null, [], none),
  (159, 1, .iconst 1, 0, 0, .int 1, [], none),
  (160, 3, .if_icmp .eq 7, 167, 0, .null, [], none),
  (163, 1, .iconst 1, 0, 0, .int 1, [], none),
  (164, 3, .goto 4, 168, 0, .null, [], none),
  (167, 1, .iconst 0, 0, 0, .int 0, [], none),
  (168, 1, .iadd, 0, 0, .null, [], none),
  (169, 2, .istore 4, 4, 0, .null, [], none),
  (171, 2, .iload 5, 5, 0, .null, [], none),
  (173, 2, .iload 9, 9, 0, .null, [], none),
  (175, 1, .iconst 2, 0, 0, .int 2, [], none),
  (176, 3, .if_icmp .eq 7, 183, 0, .null, [], none),
  (179, 1, .iconst 1, 0, 0, .int 1, [], none),
  (180, 3, .goto 4, 184, 0, .null, [], none),
  (183, 1, .iconst 0, 0, 0, .int 0, [], none),
  (184, 1, .iadd, 0, 0, .null, [], none),
  (185, 2, .istore 5, 5, 0, .null, [], none),
  (187, 3, .iinc 6 1, 6, 0, .int 1, [], none),
  (190, 3, .goto (-158), 32, 0, .null, [], none),
  (193, 1, .iconst (-1), 0, 0, .int (-1), [], none),
  (194, 1, .ireturn, 0, 0, .null, [], none)] : List xr_E), xr_sd xm_P 19 e := by
  have hc : xp_cd xm_P 19 = prog_1_method_20_code := rfl
  have ho : xp_own xm_P 19 = "ExchangeText" := rfl
  have hm : xp_ml xm_P 19 = 10 := rfl
  exact xl_cons (xk_iload hc xd_19_157 rfl) <|
    xl_cons (xk_iconst hc xd_19_159 (by decide)) <|
    xl_cons (xk_if_icmp hc xd_19_160 (by decide)) <|
    xl_cons (xk_iconst hc xd_19_163 (by decide)) <|
    xl_cons (xk_goto hc xd_19_164 (by decide)) <|
    xl_cons (xk_iconst hc xd_19_167 (by decide)) <|
    xl_cons (xk_iadd hc xd_19_168) <|
    xl_cons (xk_istore hc xd_19_169 hm rfl (by decide)) <|
    xl_cons (xk_iload hc xd_19_171 rfl) <|
    xl_cons (xk_iload hc xd_19_173 rfl) <|
    xl_cons (xk_iconst hc xd_19_175 (by decide)) <|
    xl_cons (xk_if_icmp hc xd_19_176 (by decide)) <|
    xl_cons (xk_iconst hc xd_19_179 (by decide)) <|
    xl_cons (xk_goto hc xd_19_180 (by decide)) <|
    xl_cons (xk_iconst hc xd_19_183 (by decide)) <|
    xl_cons (xk_iadd hc xd_19_184) <|
    xl_cons (xk_istore hc xd_19_185 hm rfl (by decide)) <|
    xl_cons (xk_iinc hc xd_19_187 hm rfl (by decide) (by decide)) <|
    xl_cons (xk_goto hc xd_19_190 (by decide)) <|
    xl_cons (xk_iconst hc xd_19_193 (by decide)) <|
    xl_cons (xk_ireturn hc xd_19_194) (xl_nil)
theorem xo_19 : ∀ e ∈ xm_i19, xr_sd xm_P 19 e := xl_app xo_19_0 (xl_app xo_19_1 (xo_19_2))
set_option maxRecDepth 100000 in
theorem xo_20_0 : ∀ e ∈ ([(0, 1, .iload_n 1, 1, 0, .null, [], none),
  (1, 3, .ifCond .lt 12, 13, 0, .null, [], none),
  (4, 1, .iload_n 1, 1, 0, .null, [], none),
  (5, 1, .iconst 3, 0, 0, .int 3, [], none),
  (6, 3, .if_icmp .gt 7, 13, 0, .null, [], none),
  (9, 1, .iconst 1, 0, 0, .int 1, [], none),
  (10, 3, .goto 4, 14, 0, .null, [], none),
  (13, 1, .iconst 0, 0, 0, .int 0, [], none),
  (14, 3, .invokestatic 166, 21, 1, .retAddr 2, [], none),
  (17, 1, .iload_n 1, 1, 0, .null, [], none),
  (18, 3, .ifCond .ne 11, 29, 0, .null, [], none),
  (21, 1, .aload_n 0, 0, 0, .null, [], none),
  (22, 3, .getfield 10, 0, 0, .null, [], none),
  (25, 3, .getfield 94, 1, 1, .null, [], none),
  (28, 1, .ireturn, 0, 0, .null, [], none),
  (29, 1, .iload_n 1, 1, 0, .null, [], none),
  (30, 1, .iconst 1, 0, 0, .int 1, [], none),
  (31, 3, .if_icmp .ne 11, 42, 0, .null, [], none),
  (34, 1, .aload_n 0, 0, 0, .null, [], none),
  (35, 3, .getfield 22, 0, 2, .null, [], none),
  (38, 3, .getfield 134, 2, 0, .null, [], none),
  (41, 1, .ireturn, 0, 0, .null, [], none),
  (42, 1, .iload_n 1, 1, 0, .null, [], none),
  (43, 1, .iconst 2, 0, 0, .int 2, [], none),
  (44, 3, .if_icmp .ne 13, 57, 0, .null, [], none),
  (47, 1, .aload_n 0, 0, 0, .null, [], none),
  (48, 3, .getfield 32, 0, 4, .null, [], none),
  (51, 3, .getfield 147, 3, 1, .null, [], none),
  (54, 3, .goto 10, 64, 0, .null, [], none),
  (57, 1, .aload_n 0, 0, 0, .null, [], none),
  (58, 3, .getfield 39, 0, 6, .null, [], none),
  (61, 3, .getfield 147, 3, 1, .null, [], none),
  (64, 1, .ireturn, 0, 0, .null, [], none)] : List xr_E), xr_sd xm_P 20 e := by
  have hc : xp_cd xm_P 20 = prog_1_method_21_code := rfl
  have ho : xp_own xm_P 20 = "ExchangeText" := rfl
  have hm : xp_ml xm_P 20 = 2 := rfl
  exact xl_cons (xk_iload_n hc xd_20_0 rfl) <|
    xl_cons (xk_ifCond hc xd_20_1 (by decide)) <|
    xl_cons (xk_iload_n hc xd_20_4 rfl) <|
    xl_cons (xk_iconst hc xd_20_5 (by decide)) <|
    xl_cons (xk_if_icmp hc xd_20_6 (by decide)) <|
    xl_cons (xk_iconst hc xd_20_9 (by decide)) <|
    xl_cons (xk_goto hc xd_20_10 (by decide)) <|
    xl_cons (xk_iconst hc xd_20_13 (by decide)) <|
    xl_cons (xk_callS (Y := xm_y21) ho rfl (by decide) ⟨by decide, by decide⟩ xl_52 hc xd_20_14 rfl xm_nd21 xl_103 xl_104) <|
    xl_cons (xk_iload_n hc xd_20_17 rfl) <|
    xl_cons (xk_ifCond hc xd_20_18 (by decide)) <|
    xl_cons (xk_aload_n hc xd_20_21 rfl) <|
    xl_cons (xk_getfield (C := xm_C0) (T := xm_T0) (N := 11) hc xd_20_22 ho rfl (by decide) xm_u0 xl_7) <|
    xl_cons (xk_getfield (C := xm_C1) (T := xm_T1) (N := 3) hc xd_20_25 ho rfl (by decide) xm_u1 xl_56) <|
    xl_cons (xk_ireturn hc xd_20_28) <|
    xl_cons (xk_iload_n hc xd_20_29 rfl) <|
    xl_cons (xk_iconst hc xd_20_30 (by decide)) <|
    xl_cons (xk_if_icmp hc xd_20_31 (by decide)) <|
    xl_cons (xk_aload_n hc xd_20_34 rfl) <|
    xl_cons (xk_getfield (C := xm_C0) (T := xm_T0) (N := 11) hc xd_20_35 ho rfl (by decide) xm_u0 xl_13) <|
    xl_cons (xk_getfield (C := xm_C2) (T := xm_T2) (N := 5) hc xd_20_38 ho rfl (by decide) xm_u2 xl_78) <|
    xl_cons (xk_ireturn hc xd_20_41) <|
    xl_cons (xk_iload_n hc xd_20_42 rfl) <|
    xl_cons (xk_iconst hc xd_20_43 (by decide)) <|
    xl_cons (xk_if_icmp hc xd_20_44 (by decide)) <|
    xl_cons (xk_aload_n hc xd_20_47 rfl) <|
    xl_cons (xk_getfield (C := xm_C0) (T := xm_T0) (N := 11) hc xd_20_48 ho rfl (by decide) xm_u0 xl_19) <|
    xl_cons (xk_getfield (C := xm_C3) (T := xm_T3) (N := 11) hc xd_20_51 ho rfl (by decide) xm_u3 xl_92) <|
    xl_cons (xk_goto hc xd_20_54 (by decide)) <|
    xl_cons (xk_aload_n hc xd_20_57 rfl) <|
    xl_cons (xk_getfield (C := xm_C0) (T := xm_T0) (N := 11) hc xd_20_58 ho rfl (by decide) xm_u0 xl_21) <|
    xl_cons (xk_getfield (C := xm_C3) (T := xm_T3) (N := 11) hc xd_20_61 ho rfl (by decide) xm_u3 xl_92) <|
    xl_cons (xk_ireturn hc xd_20_64) (xl_nil)
theorem xo_20 : ∀ e ∈ xm_i20, xr_sd xm_P 20 e := xo_20_0
set_option maxRecDepth 100000 in
theorem xo_21_0 : ∀ e ∈ ([(0, 1, .iload_n 0, 0, 0, .null, [], none),
  (1, 3, .ifCond .ne 13, 14, 0, .null, [], none),
  (4, 3, .new 87, 0, 1, .null, [], none),
  (14, 1, .return_, 0, 0, .null, [], none)] : List xr_E), xr_sd xm_P 21 e := by
  have hc : xp_cd xm_P 21 = prog_1_method_22_code := rfl
  have ho : xp_own xm_P 21 = "ExchangeText" := rfl
  have hm : xp_ml xm_P 21 = 1 := rfl
  exact xl_cons (xk_iload_n hc xd_21_0 rfl) <|
    xl_cons (xk_ifCond hc xd_21_1 (by decide)) <|
    xl_cons (xk_throw (E := "java/lang/IllegalArgumentException") (text := "out of its bounds, or there is none such") (names := ["java/lang/RuntimeException", "java/lang/Exception"]) (is := 253) (ic := 91) hc xd_21_4 ho rfl (by decide +kernel) (by decide +kernel) xl_54 xl_55 xm_s4 xm_at0 xd_21_7 xd_21_8 xd_21_10 xd_21_13 ⟨by decide, by decide⟩) <|
    xl_cons (xk_return_ hc xd_21_14) (xl_nil)
theorem xo_21 : ∀ e ∈ xm_i21, xr_sd xm_P 21 e := xo_21_0
set_option maxRecDepth 100000 in
theorem xo_22_0 : ∀ e ∈ ([(0, 1, .aload_n 0, 0, 0, .null, [], none),
  (1, 3, .getfield 32, 0, 4, .null, [], none),
  (4, 1, .iload_n 1, 1, 0, .null, [], none),
  (5, 3, .invokevirtual 255, 114, 2, .retAddr 0, [], none),
  (8, 1, .istore_n 2, 2, 0, .null, [], none),
  (9, 1, .iload_n 2, 2, 0, .null, [], none),
  (10, 1, .iconst (-1), 0, 0, .int (-1), [], none),
  (11, 3, .if_icmp .eq 7, 18, 0, .null, [], none),
  (14, 1, .iconst 1, 0, 0, .int 1, [], none),
  (15, 3, .goto 4, 19, 0, .null, [], none),
  (18, 1, .iconst 0, 0, 0, .int 0, [], none),
  (19, 3, .invokestatic 166, 21, 1, .retAddr 2, [], none),
  (22, 1, .iload_n 2, 2, 0, .null, [], none),
  (23, 1, .ireturn, 0, 0, .null, [], none)] : List xr_E), xr_sd xm_P 22 e := by
  have hc : xp_cd xm_P 22 = prog_1_method_23_code := rfl
  have ho : xp_own xm_P 22 = "ExchangeText" := rfl
  have hm : xp_ml xm_P 22 = 3 := rfl
  exact xl_cons (xk_aload_n hc xd_22_0 rfl) <|
    xl_cons (xk_getfield (C := xm_C0) (T := xm_T0) (N := 11) hc xd_22_1 ho rfl (by decide) xm_u0 xl_19) <|
    xl_cons (xk_iload_n hc xd_22_4 rfl) <|
    xl_cons (xk_callV (Y := xm_y114) ho rfl (by decide) ⟨by decide, by decide⟩ xl_17 hc xd_22_5 rfl (b' := 1) rfl xm_nd114 (T := xm_T3) (N := 11) rfl xl_166 xl_167 xl_168) <|
    xl_cons (xk_istore_n hc xd_22_8 hm rfl (by decide)) <|
    xl_cons (xk_iload_n hc xd_22_9 rfl) <|
    xl_cons (xk_iconst hc xd_22_10 (by decide)) <|
    xl_cons (xk_if_icmp hc xd_22_11 (by decide)) <|
    xl_cons (xk_iconst hc xd_22_14 (by decide)) <|
    xl_cons (xk_goto hc xd_22_15 (by decide)) <|
    xl_cons (xk_iconst hc xd_22_18 (by decide)) <|
    xl_cons (xk_callS (Y := xm_y21) ho rfl (by decide) ⟨by decide, by decide⟩ xl_52 hc xd_22_19 rfl xm_nd21 xl_103 xl_104) <|
    xl_cons (xk_iload_n hc xd_22_22 rfl) <|
    xl_cons (xk_ireturn hc xd_22_23) (xl_nil)
theorem xo_22 : ∀ e ∈ xm_i22, xr_sd xm_P 22 e := xo_22_0
set_option maxRecDepth 100000 in
theorem xo_23_0 : ∀ e ∈ ([(0, 1, .aload_n 0, 0, 0, .null, [], none),
  (1, 1, .iload_n 1, 1, 0, .null, [], none),
  (2, 3, .invokevirtual 174, 22, 2, .retAddr 0, [], none),
  (5, 1, .istore_n 3, 3, 0, .null, [], none),
  (6, 1, .iload_n 2, 2, 0, .null, [], none),
  (7, 3, .ifCond .lt 20, 27, 0, .null, [], none),
  (10, 1, .iload_n 2, 2, 0, .null, [], none),
  (11, 1, .aload_n 0, 0, 0, .null, [], none),
  (12, 3, .getfield 32, 0, 4, .null, [], none),
  (15, 3, .getfield 185, 3, 5, .null, [], none),
  (18, 1, .iload_n 3, 3, 0, .null, [], none),
  (19, 1, .iaload, 0, 0, .null, [], none),
  (20, 3, .if_icmp .ge 7, 27, 0, .null, [], none),
  (23, 1, .iconst 1, 0, 0, .int 1, [], none),
  (24, 3, .goto 4, 28, 0, .null, [], none),
  (27, 1, .iconst 0, 0, 0, .int 0, [], none),
  (28, 3, .invokestatic 166, 21, 1, .retAddr 2, [], none),
  (31, 1, .iload_n 3, 3, 0, .null, [], none),
  (32, 2, .bipush 8, 0, 0, .int 8, [], none),
  (34, 1, .imul, 0, 0, .null, [], none),
  (35, 1, .iload_n 2, 2, 0, .null, [], none),
  (36, 1, .iadd, 0, 0, .null, [], none),
  (37, 1, .ireturn, 0, 0, .null, [], none)] : List xr_E), xr_sd xm_P 23 e := by
  have hc : xp_cd xm_P 23 = prog_1_method_24_code := rfl
  have ho : xp_own xm_P 23 = "ExchangeText" := rfl
  have hm : xp_ml xm_P 23 = 4 := rfl
  exact xl_cons (xk_aload_n hc xd_23_0 rfl) <|
    xl_cons (xk_iload_n hc xd_23_1 rfl) <|
    xl_cons (xk_callV (Y := xm_y22) ho rfl (by decide) ⟨by decide, by decide⟩ xl_52 hc xd_23_2 rfl (b' := 1) rfl xm_nd22 (T := xm_T0) (N := 11) rfl xl_106 xl_107 xl_108) <|
    xl_cons (xk_istore_n hc xd_23_5 hm rfl (by decide)) <|
    xl_cons (xk_iload_n hc xd_23_6 rfl) <|
    xl_cons (xk_ifCond hc xd_23_7 (by decide)) <|
    xl_cons (xk_iload_n hc xd_23_10 rfl) <|
    xl_cons (xk_aload_n hc xd_23_11 rfl) <|
    xl_cons (xk_getfield (C := xm_C0) (T := xm_T0) (N := 11) hc xd_23_12 ho rfl (by decide) xm_u0 xl_19) <|
    xl_cons (xk_getfield (C := xm_C3) (T := xm_T3) (N := 11) hc xd_23_15 ho rfl (by decide) xm_u3 xl_113) <|
    xl_cons (xk_iload_n hc xd_23_18 rfl) <|
    xl_cons (xk_iaload hc xd_23_19) <|
    xl_cons (xk_if_icmp hc xd_23_20 (by decide)) <|
    xl_cons (xk_iconst hc xd_23_23 (by decide)) <|
    xl_cons (xk_goto hc xd_23_24 (by decide)) <|
    xl_cons (xk_iconst hc xd_23_27 (by decide)) <|
    xl_cons (xk_callS (Y := xm_y21) ho rfl (by decide) ⟨by decide, by decide⟩ xl_52 hc xd_23_28 rfl xm_nd21 xl_103 xl_104) <|
    xl_cons (xk_iload_n hc xd_23_31 rfl) <|
    xl_cons (xk_bipush hc xd_23_32 (by decide)) <|
    xl_cons (xk_imul hc xd_23_34) <|
    xl_cons (xk_iload_n hc xd_23_35 rfl) <|
    xl_cons (xk_iadd hc xd_23_36) <|
    xl_cons (xk_ireturn hc xd_23_37) (xl_nil)
theorem xo_23 : ∀ e ∈ xm_i23, xr_sd xm_P 23 e := xo_23_0
set_option maxRecDepth 100000 in
theorem xo_24_0 : ∀ e ∈ ([(0, 1, .aload_n 0, 0, 0, .null, [], none),
  (1, 3, .getfield 22, 0, 2, .null, [], none),
  (4, 1, .aload_n 0, 0, 0, .null, [], none),
  (5, 3, .getfield 32, 0, 4, .null, [], none),
  (8, 3, .getfield 177, 3, 4, .null, [], none),
  (11, 1, .iload_n 1, 1, 0, .null, [], none),
  (12, 1, .laload, 0, 0, .null, [], none),
  (13, 3, .invokevirtual 181, 103, 2, .retAddr 0, [], none),
  (16, 1, .istore_n 2, 2, 0, .null, [], none),
  (17, 1, .iload_n 2, 2, 0, .null, [], none),
  (18, 1, .iconst (-1), 0, 0, .int (-1), [], none),
  (19, 3, .if_icmp .ne 5, 24, 0, .null, [], none),
  (22, 1, .iconst 1, 0, 0, .int 1, [], none),
  (23, 1, .ireturn, 0, 0, .null, [], none),
  (24, 1, .aload_n 0, 0, 0, .null, [], none),
  (25, 3, .getfield 22, 0, 2, .null, [], none),
  (28, 3, .getfield 258, 2, 2, .null, [], none),
  (31, 1, .iload_n 2, 2, 0, .null, [], none),
  (32, 1, .iaload, 0, 0, .null, [], none),
  (33, 1, .aload_n 0, 0, 0, .null, [], none),
  (34, 3, .getfield 32, 0, 4, .null, [], none),
  (37, 3, .getfield 185, 3, 5, .null, [], none),
  (40, 1, .iload_n 1, 1, 0, .null, [], none),
  (41, 1, .iaload, 0, 0, .null, [], none),
  (42, 3, .if_icmp .eq 5, 47, 0, .null, [], none),
  (45, 1, .iconst 2, 0, 0, .int 2, [], none),
  (46, 1, .ireturn, 0, 0, .null, [], none),
  (47, 1, .aload_n 0, 0, 0, .null, [], none),
  (48, 1, .iload_n 1, 1, 0, .null, [], none),
  (49, 1, .iconst 3, 0, 0, .int 3, [], none),
  (50, 3, .invokevirtual 218, 25, 3, .retAddr 0, [], none),
  (53, 1, .iconst (-1), 0, 0, .int (-1), [], none),
  (54, 3, .if_icmp .ne 7, 61, 0, .null, [], none),
  (57, 1, .iconst 0, 0, 0, .int 0, [], none),
  (58, 3, .goto 4, 62, 0, .null, [], none),
  (61, 1, .iconst 3, 0, 0, .int 3, [], none),
  (62, 1, .ireturn, 0, 0, .null, [], none)] : List xr_E), xr_sd xm_P 24 e := by
  have hc : xp_cd xm_P 24 = prog_1_method_25_code := rfl
  have ho : xp_own xm_P 24 = "ExchangeText" := rfl
  have hm : xp_ml xm_P 24 = 3 := rfl
  exact xl_cons (xk_aload_n hc xd_24_0 rfl) <|
    xl_cons (xk_getfield (C := xm_C0) (T := xm_T0) (N := 11) hc xd_24_1 ho rfl (by decide) xm_u0 xl_13) <|
    xl_cons (xk_aload_n hc xd_24_4 rfl) <|
    xl_cons (xk_getfield (C := xm_C0) (T := xm_T0) (N := 11) hc xd_24_5 ho rfl (by decide) xm_u0 xl_19) <|
    xl_cons (xk_getfield (C := xm_C3) (T := xm_T3) (N := 11) hc xd_24_8 ho rfl (by decide) xm_u3 xl_109) <|
    xl_cons (xk_iload_n hc xd_24_11 rfl) <|
    xl_cons (xk_laload hc xd_24_12) <|
    xl_cons (xk_callV (Y := xm_y103) ho rfl (by decide) ⟨by decide, by decide⟩ xl_11 hc xd_24_13 rfl (b' := 1) rfl xm_nd103 (T := xm_T2) (N := 5) rfl xl_110 xl_111 xl_112) <|
    xl_cons (xk_istore_n hc xd_24_16 hm rfl (by decide)) <|
    xl_cons (xk_iload_n hc xd_24_17 rfl) <|
    xl_cons (xk_iconst hc xd_24_18 (by decide)) <|
    xl_cons (xk_if_icmp hc xd_24_19 (by decide)) <|
    xl_cons (xk_iconst hc xd_24_22 (by decide)) <|
    xl_cons (xk_ireturn hc xd_24_23) <|
    xl_cons (xk_aload_n hc xd_24_24 rfl) <|
    xl_cons (xk_getfield (C := xm_C0) (T := xm_T0) (N := 11) hc xd_24_25 ho rfl (by decide) xm_u0 xl_13) <|
    xl_cons (xk_getfield (C := xm_C2) (T := xm_T2) (N := 5) hc xd_24_28 ho rfl (by decide) xm_u2 xl_169) <|
    xl_cons (xk_iload_n hc xd_24_31 rfl) <|
    xl_cons (xk_iaload hc xd_24_32) <|
    xl_cons (xk_aload_n hc xd_24_33 rfl) <|
    xl_cons (xk_getfield (C := xm_C0) (T := xm_T0) (N := 11) hc xd_24_34 ho rfl (by decide) xm_u0 xl_19) <|
    xl_cons (xk_getfield (C := xm_C3) (T := xm_T3) (N := 11) hc xd_24_37 ho rfl (by decide) xm_u3 xl_113) <|
    xl_cons (xk_iload_n hc xd_24_40 rfl) <|
    xl_cons (xk_iaload hc xd_24_41) <|
    xl_cons (xk_if_icmp hc xd_24_42 (by decide)) <|
    xl_cons (xk_iconst hc xd_24_45 (by decide)) <|
    xl_cons (xk_ireturn hc xd_24_46) <|
    xl_cons (xk_aload_n hc xd_24_47 rfl) <|
    xl_cons (xk_iload_n hc xd_24_48 rfl) <|
    xl_cons (xk_iconst hc xd_24_49 (by decide)) <|
    xl_cons (xk_callV (Y := xm_y25) ho rfl (by decide) ⟨by decide, by decide⟩ xl_52 hc xd_24_50 rfl (b' := 2) rfl xm_nd25 (T := xm_T0) (N := 11) rfl xl_137 xl_138 xl_139) <|
    xl_cons (xk_iconst hc xd_24_53 (by decide)) <|
    xl_cons (xk_if_icmp hc xd_24_54 (by decide)) <|
    xl_cons (xk_iconst hc xd_24_57 (by decide)) <|
    xl_cons (xk_goto hc xd_24_58 (by decide)) <|
    xl_cons (xk_iconst hc xd_24_61 (by decide)) <|
    xl_cons (xk_ireturn hc xd_24_62) (xl_nil)
theorem xo_24 : ∀ e ∈ xm_i24, xr_sd xm_P 24 e := xo_24_0
set_option maxRecDepth 100000 in
theorem xo_25_0 : ∀ e ∈ ([(0, 1, .aload_n 0, 0, 0, .null, [], none),
  (1, 3, .getfield 22, 0, 2, .null, [], none),
  (4, 1, .aload_n 0, 0, 0, .null, [], none),
  (5, 3, .getfield 32, 0, 4, .null, [], none),
  (8, 3, .getfield 177, 3, 4, .null, [], none),
  (11, 1, .iload_n 1, 1, 0, .null, [], none),
  (12, 1, .laload, 0, 0, .null, [], none),
  (13, 3, .invokevirtual 181, 103, 2, .retAddr 0, [], none),
  (16, 1, .istore_n 3, 3, 0, .null, [], none),
  (17, 1, .iload_n 2, 2, 0, .null, [], none),
  (18, 1, .iconst 3, 0, 0, .int 3, [], none),
  (19, 3, .if_icmp .ne 8, 27, 0, .null, [], none),
  (22, 1, .iload_n 3, 3, 0, .null, [], none),
  (23, 1, .iconst (-1), 0, 0, .int (-1), [], none),
  (24, 3, .if_icmp .ne 5, 29, 0, .null, [], none),
  (27, 1, .iconst (-1), 0, 0, .int (-1), [], none),
  (28, 1, .ireturn, 0, 0, .null, [], none),
  (29, 1, .iconst 0, 0, 0, .int 0, [], none),
  (30, 2, .istore 4, 4, 0, .null, [], none),
  (32, 2, .iload 4, 4, 0, .null, [], none),
  (34, 1, .aload_n 0, 0, 0, .null, [], none),
  (35, 3, .getfield 32, 0, 4, .null, [], none),
  (38, 3, .getfield 185, 3, 5, .null, [], none),
  (41, 1, .iload_n 1, 1, 0, .null, [], none),
  (42, 1, .iaload, 0, 0, .null, [], none),
  (43, 3, .if_icmp .ge 54, 97, 0, .null, [], none),
  (46, 1, .iload_n 1, 1, 0, .null, [], none),
  (47, 2, .bipush 8, 0, 0, .int 8, [], none),
  (49, 1, .imul, 0, 0, .null, [], none),
  (50, 2, .iload 4, 4, 0, .null, [], none),
  (52, 1, .iadd, 0, 0, .null, [], none),
  (53, 2, .istore 5, 5, 0, .null, [], none),
  (55, 1, .aload_n 0, 0, 0, .null, [], none),
  (56, 3, .getfield 22, 0, 2, .null, [], none),
  (59, 1, .iload_n 3, 3, 0, .null, [], none),
  (60, 2, .iload 4, 4, 0, .null, [], none),
  (62, 1, .aload_n 0, 0, 0, .null, [], none),
  (63, 3, .getfield 32, 0, 4, .null, [], none),
  (66, 3, .getfield 198, 3, 7, .null, [], none),
  (69, 2, .iload 5, 5, 0, .null, [], none)] : List xr_E), xr_sd xm_P 25 e := by
  have hc : xp_cd xm_P 25 = prog_1_method_26_code := rfl
  have ho : xp_own xm_P 25 = "ExchangeText" := rfl
  have hm : xp_ml xm_P 25 = 6 := rfl
  exact xl_cons (xk_aload_n hc xd_25_0 rfl) <|
    xl_cons (xk_getfield (C := xm_C0) (T := xm_T0) (N := 11) hc xd_25_1 ho rfl (by decide) xm_u0 xl_13) <|
    xl_cons (xk_aload_n hc xd_25_4 rfl) <|
    xl_cons (xk_getfield (C := xm_C0) (T := xm_T0) (N := 11) hc xd_25_5 ho rfl (by decide) xm_u0 xl_19) <|
    xl_cons (xk_getfield (C := xm_C3) (T := xm_T3) (N := 11) hc xd_25_8 ho rfl (by decide) xm_u3 xl_109) <|
    xl_cons (xk_iload_n hc xd_25_11 rfl) <|
    xl_cons (xk_laload hc xd_25_12) <|
    xl_cons (xk_callV (Y := xm_y103) ho rfl (by decide) ⟨by decide, by decide⟩ xl_11 hc xd_25_13 rfl (b' := 1) rfl xm_nd103 (T := xm_T2) (N := 5) rfl xl_110 xl_111 xl_112) <|
    xl_cons (xk_istore_n hc xd_25_16 hm rfl (by decide)) <|
    xl_cons (xk_iload_n hc xd_25_17 rfl) <|
    xl_cons (xk_iconst hc xd_25_18 (by decide)) <|
    xl_cons (xk_if_icmp hc xd_25_19 (by decide)) <|
    xl_cons (xk_iload_n hc xd_25_22 rfl) <|
    xl_cons (xk_iconst hc xd_25_23 (by decide)) <|
    xl_cons (xk_if_icmp hc xd_25_24 (by decide)) <|
    xl_cons (xk_iconst hc xd_25_27 (by decide)) <|
    xl_cons (xk_ireturn hc xd_25_28) <|
    xl_cons (xk_iconst hc xd_25_29 (by decide)) <|
    xl_cons (xk_istore hc xd_25_30 hm rfl (by decide)) <|
    xl_cons (xk_iload hc xd_25_32 rfl) <|
    xl_cons (xk_aload_n hc xd_25_34 rfl) <|
    xl_cons (xk_getfield (C := xm_C0) (T := xm_T0) (N := 11) hc xd_25_35 ho rfl (by decide) xm_u0 xl_19) <|
    xl_cons (xk_getfield (C := xm_C3) (T := xm_T3) (N := 11) hc xd_25_38 ho rfl (by decide) xm_u3 xl_113) <|
    xl_cons (xk_iload_n hc xd_25_41 rfl) <|
    xl_cons (xk_iaload hc xd_25_42) <|
    xl_cons (xk_if_icmp hc xd_25_43 (by decide)) <|
    xl_cons (xk_iload_n hc xd_25_46 rfl) <|
    xl_cons (xk_bipush hc xd_25_47 (by decide)) <|
    xl_cons (xk_imul hc xd_25_49) <|
    xl_cons (xk_iload hc xd_25_50 rfl) <|
    xl_cons (xk_iadd hc xd_25_52) <|
    xl_cons (xk_istore hc xd_25_53 hm rfl (by decide)) <|
    xl_cons (xk_aload_n hc xd_25_55 rfl) <|
    xl_cons (xk_getfield (C := xm_C0) (T := xm_T0) (N := 11) hc xd_25_56 ho rfl (by decide) xm_u0 xl_13) <|
    xl_cons (xk_iload_n hc xd_25_59 rfl) <|
    xl_cons (xk_iload hc xd_25_60 rfl) <|
    xl_cons (xk_aload_n hc xd_25_62 rfl) <|
    xl_cons (xk_getfield (C := xm_C0) (T := xm_T0) (N := 11) hc xd_25_63 ho rfl (by decide) xm_u0 xl_19) <|
    xl_cons (xk_getfield (C := xm_C3) (T := xm_T3) (N := 11) hc xd_25_66 ho rfl (by decide) xm_u3 xl_121) <|
    xl_cons (xk_iload hc xd_25_69 rfl) (xl_nil)
set_option maxRecDepth 100000 in
theorem xo_25_1 : ∀ e ∈ ([(71, 1, .iaload, 0, 0, .null, [], none),
  (72, 1, .aload_n 0, 0, 0, .null, [], none),
  (73, 3, .getfield 32, 0, 4, .null, [], none),
  (76, 3, .getfield 201, 3, 8, .null, [], none),
  (79, 2, .iload 5, 5, 0, .null, [], none),
  (81, 1, .iaload, 0, 0, .null, [], none),
  (82, 3, .invokevirtual 259, 106, 5, .retAddr 0, [], none),
  (85, 3, .ifCond .ne 6, 91, 0, .null, [], none),
  (88, 2, .iload 4, 4, 0, .null, [], none),
  (90, 1, .ireturn, 0, 0, .null, [], none),
  (91, 3, .iinc 4 1, 4, 0, .int 1, [], none),
  (94, 3, .goto (-62), 32, 0, .null, [], none),
  (97, 1, .iconst (-1), 0, 0, .int (-1), [], none),
  (98, 1, .ireturn, 0, 0, .null, [], none)] : List xr_E), xr_sd xm_P 25 e := by
  have hc : xp_cd xm_P 25 = prog_1_method_26_code := rfl
  have ho : xp_own xm_P 25 = "ExchangeText" := rfl
  have hm : xp_ml xm_P 25 = 6 := rfl
  exact xl_cons (xk_iaload hc xd_25_71) <|
    xl_cons (xk_aload_n hc xd_25_72 rfl) <|
    xl_cons (xk_getfield (C := xm_C0) (T := xm_T0) (N := 11) hc xd_25_73 ho rfl (by decide) xm_u0 xl_19) <|
    xl_cons (xk_getfield (C := xm_C3) (T := xm_T3) (N := 11) hc xd_25_76 ho rfl (by decide) xm_u3 xl_122) <|
    xl_cons (xk_iload hc xd_25_79 rfl) <|
    xl_cons (xk_iaload hc xd_25_81) <|
    xl_cons (xk_callV (Y := xm_y106) ho rfl (by decide) ⟨by decide, by decide⟩ xl_11 hc xd_25_82 rfl (b' := 4) rfl xm_nd106 (T := xm_T2) (N := 5) rfl xl_170 xl_171 xl_172) <|
    xl_cons (xk_ifCond hc xd_25_85 (by decide)) <|
    xl_cons (xk_iload hc xd_25_88 rfl) <|
    xl_cons (xk_ireturn hc xd_25_90) <|
    xl_cons (xk_iinc hc xd_25_91 hm rfl (by decide) (by decide)) <|
    xl_cons (xk_goto hc xd_25_94 (by decide)) <|
    xl_cons (xk_iconst hc xd_25_97 (by decide)) <|
    xl_cons (xk_ireturn hc xd_25_98) (xl_nil)
theorem xo_25 : ∀ e ∈ xm_i25, xr_sd xm_P 25 e := xl_app xo_25_0 (xo_25_1)
set_option maxRecDepth 100000 in
theorem xo_26_0 : ∀ e ∈ ([(0, 1, .iload_n 1, 1, 0, .null, [], none),
  (1, 1, .iconst (-1), 0, 0, .int (-1), [], none),
  (2, 3, .if_icmp .ne 5, 7, 0, .null, [], none),
  (5, 1, .iconst 1, 0, 0, .int 1, [], none),
  (6, 1, .ireturn, 0, 0, .null, [], none),
  (7, 1, .iload_n 2, 2, 0, .null, [], none),
  (8, 1, .iconst (-1), 0, 0, .int (-1), [], none),
  (9, 3, .if_icmp .eq 24, 33, 0, .null, [], none),
  (12, 1, .aload_n 0, 0, 0, .null, [], none),
  (13, 3, .getfield 32, 0, 4, .null, [], none),
  (16, 3, .getfield 170, 3, 3, .null, [], none),
  (19, 1, .iload_n 1, 1, 0, .null, [], none),
  (20, 1, .iaload, 0, 0, .null, [], none),
  (21, 1, .aload_n 0, 0, 0, .null, [], none),
  (22, 3, .getfield 39, 0, 6, .null, [], none),
  (25, 3, .getfield 170, 3, 3, .null, [], none),
  (28, 1, .iload_n 2, 2, 0, .null, [], none),
  (29, 1, .iaload, 0, 0, .null, [], none),
  (30, 3, .if_icmp .ge 5, 35, 0, .null, [], none),
  (33, 1, .iconst 2, 0, 0, .int 2, [], none),
  (34, 1, .ireturn, 0, 0, .null, [], none),
  (35, 1, .aload_n 0, 0, 0, .null, [], none),
  (36, 3, .getfield 32, 0, 4, .null, [], none),
  (39, 3, .getfield 170, 3, 3, .null, [], none),
  (42, 1, .iload_n 1, 1, 0, .null, [], none),
  (43, 1, .iaload, 0, 0, .null, [], none),
  (44, 1, .aload_n 0, 0, 0, .null, [], none),
  (45, 3, .getfield 39, 0, 6, .null, [], none),
  (48, 3, .getfield 170, 3, 3, .null, [], none),
  (51, 1, .iload_n 2, 2, 0, .null, [], none),
  (52, 1, .iaload, 0, 0, .null, [], none),
  (53, 3, .if_icmp .le 5, 58, 0, .null, [], none),
  (56, 1, .iconst 1, 0, 0, .int 1, [], none),
  (57, 1, .ireturn, 0, 0, .null, [], none),
  (58, 1, .aload_n 0, 0, 0, .null, [], none),
  (59, 3, .getfield 32, 0, 4, .null, [], none),
  (62, 1, .iload_n 1, 1, 0, .null, [], none),
  (63, 1, .aload_n 0, 0, 0, .null, [], none),
  (64, 3, .getfield 39, 0, 6, .null, [], none),
  (67, 1, .iload_n 2, 2, 0, .null, [], none)] : List xr_E), xr_sd xm_P 26 e := by
  have hc : xp_cd xm_P 26 = prog_1_method_27_code := rfl
  have ho : xp_own xm_P 26 = "ExchangeText" := rfl
  have hm : xp_ml xm_P 26 = 3 := rfl
  exact xl_cons (xk_iload_n hc xd_26_0 rfl) <|
    xl_cons (xk_iconst hc xd_26_1 (by decide)) <|
    xl_cons (xk_if_icmp hc xd_26_2 (by decide)) <|
    xl_cons (xk_iconst hc xd_26_5 (by decide)) <|
    xl_cons (xk_ireturn hc xd_26_6) <|
    xl_cons (xk_iload_n hc xd_26_7 rfl) <|
    xl_cons (xk_iconst hc xd_26_8 (by decide)) <|
    xl_cons (xk_if_icmp hc xd_26_9 (by decide)) <|
    xl_cons (xk_aload_n hc xd_26_12 rfl) <|
    xl_cons (xk_getfield (C := xm_C0) (T := xm_T0) (N := 11) hc xd_26_13 ho rfl (by decide) xm_u0 xl_19) <|
    xl_cons (xk_getfield (C := xm_C3) (T := xm_T3) (N := 11) hc xd_26_16 ho rfl (by decide) xm_u3 xl_105) <|
    xl_cons (xk_iload_n hc xd_26_19 rfl) <|
    xl_cons (xk_iaload hc xd_26_20) <|
    xl_cons (xk_aload_n hc xd_26_21 rfl) <|
    xl_cons (xk_getfield (C := xm_C0) (T := xm_T0) (N := 11) hc xd_26_22 ho rfl (by decide) xm_u0 xl_21) <|
    xl_cons (xk_getfield (C := xm_C3) (T := xm_T3) (N := 11) hc xd_26_25 ho rfl (by decide) xm_u3 xl_105) <|
    xl_cons (xk_iload_n hc xd_26_28 rfl) <|
    xl_cons (xk_iaload hc xd_26_29) <|
    xl_cons (xk_if_icmp hc xd_26_30 (by decide)) <|
    xl_cons (xk_iconst hc xd_26_33 (by decide)) <|
    xl_cons (xk_ireturn hc xd_26_34) <|
    xl_cons (xk_aload_n hc xd_26_35 rfl) <|
    xl_cons (xk_getfield (C := xm_C0) (T := xm_T0) (N := 11) hc xd_26_36 ho rfl (by decide) xm_u0 xl_19) <|
    xl_cons (xk_getfield (C := xm_C3) (T := xm_T3) (N := 11) hc xd_26_39 ho rfl (by decide) xm_u3 xl_105) <|
    xl_cons (xk_iload_n hc xd_26_42 rfl) <|
    xl_cons (xk_iaload hc xd_26_43) <|
    xl_cons (xk_aload_n hc xd_26_44 rfl) <|
    xl_cons (xk_getfield (C := xm_C0) (T := xm_T0) (N := 11) hc xd_26_45 ho rfl (by decide) xm_u0 xl_21) <|
    xl_cons (xk_getfield (C := xm_C3) (T := xm_T3) (N := 11) hc xd_26_48 ho rfl (by decide) xm_u3 xl_105) <|
    xl_cons (xk_iload_n hc xd_26_51 rfl) <|
    xl_cons (xk_iaload hc xd_26_52) <|
    xl_cons (xk_if_icmp hc xd_26_53 (by decide)) <|
    xl_cons (xk_iconst hc xd_26_56 (by decide)) <|
    xl_cons (xk_ireturn hc xd_26_57) <|
    xl_cons (xk_aload_n hc xd_26_58 rfl) <|
    xl_cons (xk_getfield (C := xm_C0) (T := xm_T0) (N := 11) hc xd_26_59 ho rfl (by decide) xm_u0 xl_19) <|
    xl_cons (xk_iload_n hc xd_26_62 rfl) <|
    xl_cons (xk_aload_n hc xd_26_63 rfl) <|
    xl_cons (xk_getfield (C := xm_C0) (T := xm_T0) (N := 11) hc xd_26_64 ho rfl (by decide) xm_u0 xl_21) <|
    xl_cons (xk_iload_n hc xd_26_67 rfl) (xl_nil)
set_option maxRecDepth 100000 in
theorem xo_26_1 : ∀ e ∈ ([(68, 1, .aload_n 0, 0, 0, .null, [], none),
  (69, 3, .getfield 56, 0, 8, .null, [], none),
  (72, 3, .invokevirtual 263, 126, 5, .retAddr 0, [], none),
  (75, 3, .ifCond .eq 7, 82, 0, .null, [], none),
  (78, 1, .iconst 0, 0, 0, .int 0, [], none),
  (79, 3, .goto 4, 83, 0, .null, [], none),
  (82, 1, .iconst 3, 0, 0, .int 3, [], none),
  (83, 1, .ireturn, 0, 0, .null, [], none)] : List xr_E), xr_sd xm_P 26 e := by
  have hc : xp_cd xm_P 26 = prog_1_method_27_code := rfl
  have ho : xp_own xm_P 26 = "ExchangeText" := rfl
  have hm : xp_ml xm_P 26 = 3 := rfl
  exact xl_cons (xk_aload_n hc xd_26_68 rfl) <|
    xl_cons (xk_getfield (C := xm_C0) (T := xm_T0) (N := 11) hc xd_26_69 ho rfl (by decide) xm_u0 xl_33) <|
    xl_cons (xk_callV (Y := xm_y126) ho rfl (by decide) ⟨by decide, by decide⟩ xl_17 hc xd_26_72 rfl (b' := 4) rfl xm_nd126 (T := xm_T3) (N := 11) rfl xl_173 xl_174 xl_175) <|
    xl_cons (xk_ifCond hc xd_26_75 (by decide)) <|
    xl_cons (xk_iconst hc xd_26_78 (by decide)) <|
    xl_cons (xk_goto hc xd_26_79 (by decide)) <|
    xl_cons (xk_iconst hc xd_26_82 (by decide)) <|
    xl_cons (xk_ireturn hc xd_26_83) (xl_nil)
theorem xo_26 : ∀ e ∈ xm_i26, xr_sd xm_P 26 e := xl_app xo_26_0 (xo_26_1)
set_option maxRecDepth 100000 in
theorem xo_27_0 : ∀ e ∈ ([(0, 1, .lload_n 0, 0, 0, .null, [], none),
  (1, 1, .iload_n 2, 2, 0, .null, [], none),
  (2, 1, .lushr, 0, 0, .null, [], none),
  (3, 1, .l2i, 0, 0, .null, [], none),
  (4, 3, .sipush 255, 0, 0, .int 255, [], none),
  (7, 1, .iand, 0, 0, .null, [], none),
  (8, 1, .ireturn, 0, 0, .null, [], none)] : List xr_E), xr_sd xm_P 27 e := by
  have hc : xp_cd xm_P 27 = prog_1_method_28_code := rfl
  have ho : xp_own xm_P 27 = "ExchangeText" := rfl
  have hm : xp_ml xm_P 27 = 3 := rfl
  exact xl_cons (xk_lload_n hc xd_27_0 rfl) <|
    xl_cons (xk_iload_n hc xd_27_1 rfl) <|
    xl_cons (xk_lushr hc xd_27_2) <|
    xl_cons (xk_l2i hc xd_27_3) <|
    xl_cons (xk_sipush hc xd_27_4 (by decide)) <|
    xl_cons (xk_iand hc xd_27_7) <|
    xl_cons (xk_ireturn hc xd_27_8) (xl_nil)
theorem xo_27 : ∀ e ∈ xm_i27, xr_sd xm_P 27 e := xo_27_0
set_option maxRecDepth 100000 in
theorem xo_28_0 : ∀ e ∈ ([(0, 1, .iload_n 0, 0, 0, .null, [], none),
  (1, 2, .bipush 48, 0, 0, .int 48, [], none),
  (3, 3, .if_icmp .lt 13, 16, 0, .null, [], none),
  (6, 1, .iload_n 0, 0, 0, .null, [], none),
  (7, 2, .bipush 57, 0, 0, .int 57, [], none),
  (9, 3, .if_icmp .gt 7, 16, 0, .null, [], none),
  (12, 1, .iconst 1, 0, 0, .int 1, [], none),
  (13, 3, .goto 4, 17, 0, .null, [], none),
  (16, 1, .iconst 0, 0, 0, .int 0, [], none),
  (17, 1, .ireturn, 0, 0, .null, [], none)] : List xr_E), xr_sd xm_P 28 e := by
  have hc : xp_cd xm_P 28 = prog_1_method_29_code := rfl
  have ho : xp_own xm_P 28 = "ExchangeText" := rfl
  have hm : xp_ml xm_P 28 = 1 := rfl
  exact xl_cons (xk_iload_n hc xd_28_0 rfl) <|
    xl_cons (xk_bipush hc xd_28_1 (by decide)) <|
    xl_cons (xk_if_icmp hc xd_28_3 (by decide)) <|
    xl_cons (xk_iload_n hc xd_28_6 rfl) <|
    xl_cons (xk_bipush hc xd_28_7 (by decide)) <|
    xl_cons (xk_if_icmp hc xd_28_9 (by decide)) <|
    xl_cons (xk_iconst hc xd_28_12 (by decide)) <|
    xl_cons (xk_goto hc xd_28_13 (by decide)) <|
    xl_cons (xk_iconst hc xd_28_16 (by decide)) <|
    xl_cons (xk_ireturn hc xd_28_17) (xl_nil)
theorem xo_28 : ∀ e ∈ xm_i28, xr_sd xm_P 28 e := xo_28_0
set_option maxRecDepth 100000 in
theorem xo_29_0 : ∀ e ∈ ([(0, 1, .iload_n 0, 0, 0, .null, [], none),
  (1, 2, .bipush 65, 0, 0, .int 65, [], none),
  (3, 3, .if_icmp .lt 13, 16, 0, .null, [], none),
  (6, 1, .iload_n 0, 0, 0, .null, [], none),
  (7, 2, .bipush 90, 0, 0, .int 90, [], none),
  (9, 3, .if_icmp .gt 7, 16, 0, .null, [], none),
  (12, 1, .iconst 1, 0, 0, .int 1, [], none),
  (13, 3, .goto 4, 17, 0, .null, [], none),
  (16, 1, .iconst 0, 0, 0, .int 0, [], none),
  (17, 1, .ireturn, 0, 0, .null, [], none)] : List xr_E), xr_sd xm_P 29 e := by
  have hc : xp_cd xm_P 29 = prog_1_method_30_code := rfl
  have ho : xp_own xm_P 29 = "ExchangeText" := rfl
  have hm : xp_ml xm_P 29 = 1 := rfl
  exact xl_cons (xk_iload_n hc xd_29_0 rfl) <|
    xl_cons (xk_bipush hc xd_29_1 (by decide)) <|
    xl_cons (xk_if_icmp hc xd_29_3 (by decide)) <|
    xl_cons (xk_iload_n hc xd_29_6 rfl) <|
    xl_cons (xk_bipush hc xd_29_7 (by decide)) <|
    xl_cons (xk_if_icmp hc xd_29_9 (by decide)) <|
    xl_cons (xk_iconst hc xd_29_12 (by decide)) <|
    xl_cons (xk_goto hc xd_29_13 (by decide)) <|
    xl_cons (xk_iconst hc xd_29_16 (by decide)) <|
    xl_cons (xk_ireturn hc xd_29_17) (xl_nil)
theorem xo_29 : ∀ e ∈ xm_i29, xr_sd xm_P 29 e := xo_29_0
set_option maxRecDepth 100000 in
theorem xo_30_0 : ∀ e ∈ ([(0, 1, .aload_n 0, 0, 0, .null, [], none),
  (1, 3, .invokespecial 1, 0, 0, .int 1, [], none),
  (4, 1, .aload_n 0, 0, 0, .null, [], none),
  (5, 3, .sipush 1200, 0, 0, .int 1200, [], none),
  (8, 2, .newarray .int, 0, 0, .null, [], none),
  (10, 3, .putfield 7, 9, 2, .null, [], none),
  (13, 1, .aload_n 0, 0, 0, .null, [], none),
  (14, 3, .sipush 1200, 0, 0, .int 1200, [], none),
  (17, 2, .newarray .int, 0, 0, .null, [], none),
  (19, 3, .putfield 13, 9, 3, .null, [], none),
  (22, 1, .aload_n 0, 0, 0, .null, [], none),
  (23, 1, .iconst 2, 0, 0, .int 2, [], none),
  (24, 2, .newarray .int, 0, 0, .null, [], none),
  (26, 3, .putfield 16, 9, 4, .null, [], none),
  (29, 1, .aload_n 0, 0, 0, .null, [], none),
  (30, 2, .bipush 24, 0, 0, .int 24, [], none),
  (32, 2, .newarray .int, 0, 0, .null, [], none),
  (34, 3, .putfield 19, 9, 5, .null, [], none),
  (37, 1, .aload_n 0, 0, 0, .null, [], none),
  (38, 3, .sipush 192, 0, 0, .int 192, [], none),
  (41, 2, .newarray .int, 0, 0, .null, [], none),
  (43, 3, .putfield 22, 9, 6, .null, [], none),
  (46, 1, .aload_n 0, 0, 0, .null, [], none),
  (47, 2, .bipush 24, 0, 0, .int 24, [], none),
  (49, 2, .newarray .int, 0, 0, .null, [], none),
  (51, 3, .putfield 25, 9, 7, .null, [], none),
  (54, 1, .aload_n 0, 0, 0, .null, [], none),
  (55, 3, .sipush 192, 0, 0, .int 192, [], none),
  (58, 2, .newarray .int, 0, 0, .null, [], none),
  (60, 3, .putfield 28, 9, 8, .null, [], none),
  (63, 1, .aload_n 0, 0, 0, .null, [], none),
  (64, 3, .sipush 192, 0, 0, .int 192, [], none),
  (67, 2, .newarray .boolean, 3, 0, .null, [], none),
  (69, 3, .putfield 31, 9, 9, .null, [], none),
  (72, 1, .aload_n 0, 0, 0, .null, [], none),
  (73, 1, .iconst 3, 0, 0, .int 3, [], none),
  (74, 2, .newarray .int, 0, 0, .null, [], none),
  (76, 3, .putfield 35, 9, 10, .null, [], none),
  (79, 1, .aload_n 0, 0, 0, .null, [], none),
  (80, 2, .bipush 120, 0, 0, .int 120, [], none)] : List xr_E), xr_sd xm_P 30 e := by
  have hc : xp_cd xm_P 30 = prog_12_method_1_code := rfl
  have ho : xp_own xm_P 30 = "ExchangeTextModel" := rfl
  have hm : xp_ml xm_P 30 = 1 := rfl
  exact xl_cons (xk_aload_n hc xd_30_0 rfl) <|
    xl_cons (xk_objInit hc xd_30_1 ho xm_rl30 xl_176 xl_1 xl_2) <|
    xl_cons (xk_aload_n hc xd_30_4 rfl) <|
    xl_cons (xk_sipush hc xd_30_5 (by decide)) <|
    xl_cons (xk_newarray hc xd_30_8 (by decide) rfl xl_177) <|
    xl_cons (xk_putfieldF (C := xm_C9) (T := xm_T9) (N := 25) (ty := xm_ty9) hc xd_30_10 ho rfl (by decide) xm_u9 xm_tk9 rfl xm_nm9 xl_178 rfl rfl rfl) <|
    xl_cons (xk_aload_n hc xd_30_13 rfl) <|
    xl_cons (xk_sipush hc xd_30_14 (by decide)) <|
    xl_cons (xk_newarray hc xd_30_17 (by decide) rfl xl_177) <|
    xl_cons (xk_putfieldF (C := xm_C9) (T := xm_T9) (N := 25) (ty := xm_ty9) hc xd_30_19 ho rfl (by decide) xm_u9 xm_tk9 rfl xm_nm9 xl_179 rfl rfl rfl) <|
    xl_cons (xk_aload_n hc xd_30_22 rfl) <|
    xl_cons (xk_iconst hc xd_30_23 (by decide)) <|
    xl_cons (xk_newarray hc xd_30_24 (by decide) rfl xl_177) <|
    xl_cons (xk_putfieldF (C := xm_C9) (T := xm_T9) (N := 25) (ty := xm_ty9) hc xd_30_26 ho rfl (by decide) xm_u9 xm_tk9 rfl xm_nm9 xl_180 rfl rfl rfl) <|
    xl_cons (xk_aload_n hc xd_30_29 rfl) <|
    xl_cons (xk_bipush hc xd_30_30 (by decide)) <|
    xl_cons (xk_newarray hc xd_30_32 (by decide) rfl xl_177) <|
    xl_cons (xk_putfieldF (C := xm_C9) (T := xm_T9) (N := 25) (ty := xm_ty9) hc xd_30_34 ho rfl (by decide) xm_u9 xm_tk9 rfl xm_nm9 xl_181 rfl rfl rfl) <|
    xl_cons (xk_aload_n hc xd_30_37 rfl) <|
    xl_cons (xk_sipush hc xd_30_38 (by decide)) <|
    xl_cons (xk_newarray hc xd_30_41 (by decide) rfl xl_177) <|
    xl_cons (xk_putfieldF (C := xm_C9) (T := xm_T9) (N := 25) (ty := xm_ty9) hc xd_30_43 ho rfl (by decide) xm_u9 xm_tk9 rfl xm_nm9 xl_182 rfl rfl rfl) <|
    xl_cons (xk_aload_n hc xd_30_46 rfl) <|
    xl_cons (xk_bipush hc xd_30_47 (by decide)) <|
    xl_cons (xk_newarray hc xd_30_49 (by decide) rfl xl_177) <|
    xl_cons (xk_putfieldF (C := xm_C9) (T := xm_T9) (N := 25) (ty := xm_ty9) hc xd_30_51 ho rfl (by decide) xm_u9 xm_tk9 rfl xm_nm9 xl_183 rfl rfl rfl) <|
    xl_cons (xk_aload_n hc xd_30_54 rfl) <|
    xl_cons (xk_sipush hc xd_30_55 (by decide)) <|
    xl_cons (xk_newarray hc xd_30_58 (by decide) rfl xl_177) <|
    xl_cons (xk_putfieldF (C := xm_C9) (T := xm_T9) (N := 25) (ty := xm_ty9) hc xd_30_60 ho rfl (by decide) xm_u9 xm_tk9 rfl xm_nm9 xl_184 rfl rfl rfl) <|
    xl_cons (xk_aload_n hc xd_30_63 rfl) <|
    xl_cons (xk_sipush hc xd_30_64 (by decide)) <|
    xl_cons (xk_newarray hc xd_30_67 (by decide) rfl xl_185) <|
    xl_cons (xk_putfieldF (C := xm_C9) (T := xm_T9) (N := 25) (ty := xm_ty9) hc xd_30_69 ho rfl (by decide) xm_u9 xm_tk9 rfl xm_nm9 xl_186 rfl rfl rfl) <|
    xl_cons (xk_aload_n hc xd_30_72 rfl) <|
    xl_cons (xk_iconst hc xd_30_73 (by decide)) <|
    xl_cons (xk_newarray hc xd_30_74 (by decide) rfl xl_177) <|
    xl_cons (xk_putfieldF (C := xm_C9) (T := xm_T9) (N := 25) (ty := xm_ty9) hc xd_30_76 ho rfl (by decide) xm_u9 xm_tk9 rfl xm_nm9 xl_187 rfl rfl rfl) <|
    xl_cons (xk_aload_n hc xd_30_79 rfl) <|
    xl_cons (xk_bipush hc xd_30_80 (by decide)) (xl_nil)
set_option maxRecDepth 100000 in
theorem xo_30_1 : ∀ e ∈ ([(82, 2, .newarray .int, 0, 0, .null, [], none),
  (84, 3, .putfield 38, 9, 11, .null, [], none),
  (87, 1, .aload_n 0, 0, 0, .null, [], none),
  (88, 2, .bipush 120, 0, 0, .int 120, [], none),
  (90, 2, .newarray .int, 0, 0, .null, [], none),
  (92, 3, .putfield 41, 9, 12, .null, [], none),
  (95, 1, .aload_n 0, 0, 0, .null, [], none),
  (96, 3, .sipush 960, 0, 0, .int 960, [], none),
  (99, 2, .newarray .int, 0, 0, .null, [], none),
  (101, 3, .putfield 44, 9, 13, .null, [], none),
  (104, 1, .aload_n 0, 0, 0, .null, [], none),
  (105, 2, .bipush 120, 0, 0, .int 120, [], none),
  (107, 2, .newarray .int, 0, 0, .null, [], none),
  (109, 3, .putfield 47, 9, 14, .null, [], none),
  (112, 1, .aload_n 0, 0, 0, .null, [], none),
  (113, 3, .sipush 960, 0, 0, .int 960, [], none),
  (116, 2, .newarray .int, 0, 0, .null, [], none),
  (118, 3, .putfield 50, 9, 15, .null, [], none),
  (121, 1, .aload_n 0, 0, 0, .null, [], none),
  (122, 3, .sipush 960, 0, 0, .int 960, [], none),
  (125, 2, .newarray .int, 0, 0, .null, [], none),
  (127, 3, .putfield 53, 9, 16, .null, [], none),
  (130, 1, .aload_n 0, 0, 0, .null, [], none),
  (131, 3, .sipush 19200, 0, 0, .int 19200, [], none),
  (134, 2, .newarray .int, 0, 0, .null, [], none),
  (136, 3, .putfield 56, 9, 17, .null, [], none),
  (139, 1, .aload_n 0, 0, 0, .null, [], none),
  (140, 2, .bipush 40, 0, 0, .int 40, [], none),
  (142, 2, .newarray .int, 0, 0, .null, [], none),
  (144, 3, .putfield 59, 9, 21, .null, [], none),
  (147, 1, .aload_n 0, 0, 0, .null, [], none),
  (148, 2, .bipush 40, 0, 0, .int 40, [], none),
  (150, 2, .newarray .int, 0, 0, .null, [], none),
  (152, 3, .putfield 62, 9, 22, .null, [], none),
  (155, 1, .aload_n 0, 0, 0, .null, [], none),
  (156, 2, .bipush 40, 0, 0, .int 40, [], none),
  (158, 2, .newarray .long, 1, 0, .null, [], none),
  (160, 3, .putfield 65, 9, 23, .null, [], none),
  (163, 1, .return_, 0, 0, .null, [], none)] : List xr_E), xr_sd xm_P 30 e := by
  have hc : xp_cd xm_P 30 = prog_12_method_1_code := rfl
  have ho : xp_own xm_P 30 = "ExchangeTextModel" := rfl
  have hm : xp_ml xm_P 30 = 1 := rfl
  exact xl_cons (xk_newarray hc xd_30_82 (by decide) rfl xl_177) <|
    xl_cons (xk_putfieldF (C := xm_C9) (T := xm_T9) (N := 25) (ty := xm_ty9) hc xd_30_84 ho rfl (by decide) xm_u9 xm_tk9 rfl xm_nm9 xl_188 rfl rfl rfl) <|
    xl_cons (xk_aload_n hc xd_30_87 rfl) <|
    xl_cons (xk_bipush hc xd_30_88 (by decide)) <|
    xl_cons (xk_newarray hc xd_30_90 (by decide) rfl xl_177) <|
    xl_cons (xk_putfieldF (C := xm_C9) (T := xm_T9) (N := 25) (ty := xm_ty9) hc xd_30_92 ho rfl (by decide) xm_u9 xm_tk9 rfl xm_nm9 xl_189 rfl rfl rfl) <|
    xl_cons (xk_aload_n hc xd_30_95 rfl) <|
    xl_cons (xk_sipush hc xd_30_96 (by decide)) <|
    xl_cons (xk_newarray hc xd_30_99 (by decide) rfl xl_177) <|
    xl_cons (xk_putfieldF (C := xm_C9) (T := xm_T9) (N := 25) (ty := xm_ty9) hc xd_30_101 ho rfl (by decide) xm_u9 xm_tk9 rfl xm_nm9 xl_190 rfl rfl rfl) <|
    xl_cons (xk_aload_n hc xd_30_104 rfl) <|
    xl_cons (xk_bipush hc xd_30_105 (by decide)) <|
    xl_cons (xk_newarray hc xd_30_107 (by decide) rfl xl_177) <|
    xl_cons (xk_putfieldF (C := xm_C9) (T := xm_T9) (N := 25) (ty := xm_ty9) hc xd_30_109 ho rfl (by decide) xm_u9 xm_tk9 rfl xm_nm9 xl_191 rfl rfl rfl) <|
    xl_cons (xk_aload_n hc xd_30_112 rfl) <|
    xl_cons (xk_sipush hc xd_30_113 (by decide)) <|
    xl_cons (xk_newarray hc xd_30_116 (by decide) rfl xl_177) <|
    xl_cons (xk_putfieldF (C := xm_C9) (T := xm_T9) (N := 25) (ty := xm_ty9) hc xd_30_118 ho rfl (by decide) xm_u9 xm_tk9 rfl xm_nm9 xl_192 rfl rfl rfl) <|
    xl_cons (xk_aload_n hc xd_30_121 rfl) <|
    xl_cons (xk_sipush hc xd_30_122 (by decide)) <|
    xl_cons (xk_newarray hc xd_30_125 (by decide) rfl xl_177) <|
    xl_cons (xk_putfieldF (C := xm_C9) (T := xm_T9) (N := 25) (ty := xm_ty9) hc xd_30_127 ho rfl (by decide) xm_u9 xm_tk9 rfl xm_nm9 xl_193 rfl rfl rfl) <|
    xl_cons (xk_aload_n hc xd_30_130 rfl) <|
    xl_cons (xk_sipush hc xd_30_131 (by decide)) <|
    xl_cons (xk_newarray hc xd_30_134 (by decide) rfl xl_177) <|
    xl_cons (xk_putfieldF (C := xm_C9) (T := xm_T9) (N := 25) (ty := xm_ty9) hc xd_30_136 ho rfl (by decide) xm_u9 xm_tk9 rfl xm_nm9 xl_194 rfl rfl rfl) <|
    xl_cons (xk_aload_n hc xd_30_139 rfl) <|
    xl_cons (xk_bipush hc xd_30_140 (by decide)) <|
    xl_cons (xk_newarray hc xd_30_142 (by decide) rfl xl_177) <|
    xl_cons (xk_putfieldF (C := xm_C9) (T := xm_T9) (N := 25) (ty := xm_ty9) hc xd_30_144 ho rfl (by decide) xm_u9 xm_tk9 rfl xm_nm9 xl_195 rfl rfl rfl) <|
    xl_cons (xk_aload_n hc xd_30_147 rfl) <|
    xl_cons (xk_bipush hc xd_30_148 (by decide)) <|
    xl_cons (xk_newarray hc xd_30_150 (by decide) rfl xl_177) <|
    xl_cons (xk_putfieldF (C := xm_C9) (T := xm_T9) (N := 25) (ty := xm_ty9) hc xd_30_152 ho rfl (by decide) xm_u9 xm_tk9 rfl xm_nm9 xl_196 rfl rfl rfl) <|
    xl_cons (xk_aload_n hc xd_30_155 rfl) <|
    xl_cons (xk_bipush hc xd_30_156 (by decide)) <|
    xl_cons (xk_newarray hc xd_30_158 (by decide) rfl xl_197) <|
    xl_cons (xk_putfieldF (C := xm_C9) (T := xm_T9) (N := 25) (ty := xm_ty9) hc xd_30_160 ho rfl (by decide) xm_u9 xm_tk9 rfl xm_nm9 xl_198 rfl rfl rfl) <|
    xl_cons (xk_return_ hc xd_30_163) (xl_nil)
theorem xo_30 : ∀ e ∈ xm_i30, xr_sd xm_P 30 e := xl_app xo_30_0 (xo_30_1)
set_option maxRecDepth 100000 in
theorem xo_31_0 : ∀ e ∈ ([(0, 1, .aload_n 0, 0, 0, .null, [], none),
  (1, 3, .getfield 69, 9, 0, .null, [], none),
  (4, 1, .ireturn, 0, 0, .null, [], none)] : List xr_E), xr_sd xm_P 31 e := by
  have hc : xp_cd xm_P 31 = prog_12_method_2_code := rfl
  have ho : xp_own xm_P 31 = "ExchangeTextModel" := rfl
  have hm : xp_ml xm_P 31 = 1 := rfl
  exact xl_cons (xk_aload_n hc xd_31_0 rfl) <|
    xl_cons (xk_getfield (C := xm_C9) (T := xm_T9) (N := 25) hc xd_31_1 ho rfl (by decide) xm_u9 xl_199) <|
    xl_cons (xk_ireturn hc xd_31_4) (xl_nil)
theorem xo_31 : ∀ e ∈ xm_i31, xr_sd xm_P 31 e := xo_31_0
set_option maxRecDepth 100000 in
theorem xo_32_0 : ∀ e ∈ ([(0, 1, .aload_n 0, 0, 0, .null, [], none),
  (1, 3, .getfield 69, 9, 0, .null, [], none),
  (4, 3, .ifCond .ne 12, 16, 0, .null, [], none),
  (7, 1, .iload_n 1, 1, 0, .null, [], none),
  (8, 3, .ifCond .eq 8, 16, 0, .null, [], none),
  (11, 1, .aload_n 0, 0, 0, .null, [], none),
  (12, 1, .iload_n 2, 2, 0, .null, [], none),
  (13, 3, .putfield 69, 9, 0, .null, [], none),
  (16, 1, .aload_n 0, 0, 0, .null, [], none),
  (17, 3, .getfield 69, 9, 0, .null, [], none),
  (20, 3, .ifCond .le 7, 27, 0, .null, [], none),
  (23, 1, .iconst 1, 0, 0, .int 1, [], none),
  (24, 3, .goto 4, 28, 0, .null, [], none),
  (27, 1, .iconst 0, 0, 0, .int 0, [], none),
  (28, 1, .ireturn, 0, 0, .null, [], none)] : List xr_E), xr_sd xm_P 32 e := by
  have hc : xp_cd xm_P 32 = prog_12_method_3_code := rfl
  have ho : xp_own xm_P 32 = "ExchangeTextModel" := rfl
  have hm : xp_ml xm_P 32 = 3 := rfl
  exact xl_cons (xk_aload_n hc xd_32_0 rfl) <|
    xl_cons (xk_getfield (C := xm_C9) (T := xm_T9) (N := 25) hc xd_32_1 ho rfl (by decide) xm_u9 xl_199) <|
    xl_cons (xk_ifCond hc xd_32_4 (by decide)) <|
    xl_cons (xk_iload_n hc xd_32_7 rfl) <|
    xl_cons (xk_ifCond hc xd_32_8 (by decide)) <|
    xl_cons (xk_aload_n hc xd_32_11 rfl) <|
    xl_cons (xk_iload_n hc xd_32_12 rfl) <|
    xl_cons (xk_putfield (C := xm_C9) (T := xm_T9) (N := 25) (ty := xm_ty9) hc xd_32_13 ho rfl (by decide) xm_u9 xm_tk9 rfl xm_nm9 xl_199 rfl) <|
    xl_cons (xk_aload_n hc xd_32_16 rfl) <|
    xl_cons (xk_getfield (C := xm_C9) (T := xm_T9) (N := 25) hc xd_32_17 ho rfl (by decide) xm_u9 xl_199) <|
    xl_cons (xk_ifCond hc xd_32_20 (by decide)) <|
    xl_cons (xk_iconst hc xd_32_23 (by decide)) <|
    xl_cons (xk_goto hc xd_32_24 (by decide)) <|
    xl_cons (xk_iconst hc xd_32_27 (by decide)) <|
    xl_cons (xk_ireturn hc xd_32_28) (xl_nil)
theorem xo_32 : ∀ e ∈ xm_i32, xr_sd xm_P 32 e := xo_32_0
set_option maxRecDepth 100000 in
theorem xo_33_0 : ∀ e ∈ ([(0, 1, .aload_n 0, 0, 0, .null, [], none),
  (1, 1, .iconst 0, 0, 0, .int 0, [], none),
  (2, 3, .putfield 69, 9, 0, .null, [], none),
  (5, 1, .iconst 0, 0, 0, .int 0, [], none),
  (6, 1, .istore_n 3, 3, 0, .null, [], none),
  (7, 1, .iconst 1, 0, 0, .int 1, [], none),
  (8, 2, .istore 4, 4, 0, .null, [], none),
  (10, 2, .bipush 56, 0, 0, .int 56, [], none),
  (12, 2, .istore 5, 5, 0, .null, [], none),
  (14, 2, .iload 5, 5, 0, .null, [], none),
  (16, 3, .ifCond .lt 64, 80, 0, .null, [], none),
  (19, 1, .lload_n 1, 1, 0, .null, [], none),
  (20, 2, .iload 5, 5, 0, .null, [], none),
  (22, 1, .lshr, 0, 0, .null, [], none),
  (23, 3, .ldc2_w 73, 0, 0, .long 255, [], none),
  (26, 1, .land, 0, 0, .null, [], none),
  (27, 1, .l2i, 0, 0, .null, [], none),
  (28, 2, .istore 6, 6, 0, .null, [], none),
  (30, 2, .iload 4, 4, 0, .null, [], none),
  (32, 3, .ifCond .eq 26, 58, 0, .null, [], none),
  (35, 2, .iload 6, 6, 0, .null, [], none),
  (37, 3, .ifCond .eq 17, 54, 0, .null, [], none),
  (40, 2, .iload 6, 6, 0, .null, [], none),
  (42, 2, .bipush 32, 0, 0, .int 32, [], none),
  (44, 3, .if_icmp .lt 14, 58, 0, .null, [], none),
  (47, 2, .iload 6, 6, 0, .null, [], none),
  (49, 2, .bipush 126, 0, 0, .int 126, [], none),
  (51, 3, .if_icmp .gt 7, 58, 0, .null, [], none),
  (54, 1, .iconst 1, 0, 0, .int 1, [], none),
  (55, 3, .goto 4, 59, 0, .null, [], none),
  (58, 1, .iconst 0, 0, 0, .int 0, [], none),
  (59, 2, .istore 4, 4, 0, .null, [], none),
  (61, 1, .iload_n 3, 3, 0, .null, [], none),
  (62, 2, .iload 6, 6, 0, .null, [], none),
  (64, 3, .ifCond .ne 7, 71, 0, .null, [], none),
  (67, 1, .iconst 0, 0, 0, .int 0, [], none),
  (68, 3, .goto 4, 72, 0, .null, [], none),
  (71, 1, .iconst 1, 0, 0, .int 1, [], none),
  (72, 1, .iadd, 0, 0, .null, [], none),
  (73, 1, .istore_n 3, 3, 0, .null, [], none)] : List xr_E), xr_sd xm_P 33 e := by
  have hc : xp_cd xm_P 33 = prog_12_method_4_code := rfl
  have ho : xp_own xm_P 33 = "ExchangeTextModel" := rfl
  have hm : xp_ml xm_P 33 = 7 := rfl
  exact xl_cons (xk_aload_n hc xd_33_0 rfl) <|
    xl_cons (xk_iconst hc xd_33_1 (by decide)) <|
    xl_cons (xk_putfield (C := xm_C9) (T := xm_T9) (N := 25) (ty := xm_ty9) hc xd_33_2 ho rfl (by decide) xm_u9 xm_tk9 rfl xm_nm9 xl_199 rfl) <|
    xl_cons (xk_iconst hc xd_33_5 (by decide)) <|
    xl_cons (xk_istore_n hc xd_33_6 hm rfl (by decide)) <|
    xl_cons (xk_iconst hc xd_33_7 (by decide)) <|
    xl_cons (xk_istore hc xd_33_8 hm rfl (by decide)) <|
    xl_cons (xk_bipush hc xd_33_10 (by decide)) <|
    xl_cons (xk_istore hc xd_33_12 hm rfl (by decide)) <|
    xl_cons (xk_iload hc xd_33_14 rfl) <|
    xl_cons (xk_ifCond hc xd_33_16 (by decide)) <|
    xl_cons (xk_lload_n hc xd_33_19 rfl) <|
    xl_cons (xk_iload hc xd_33_20 rfl) <|
    xl_cons (xk_lshr hc xd_33_22) <|
    xl_cons (xk_ldc2 hc xd_33_23 ho rfl xl_200) <|
    xl_cons (xk_land hc xd_33_26) <|
    xl_cons (xk_l2i hc xd_33_27) <|
    xl_cons (xk_istore hc xd_33_28 hm rfl (by decide)) <|
    xl_cons (xk_iload hc xd_33_30 rfl) <|
    xl_cons (xk_ifCond hc xd_33_32 (by decide)) <|
    xl_cons (xk_iload hc xd_33_35 rfl) <|
    xl_cons (xk_ifCond hc xd_33_37 (by decide)) <|
    xl_cons (xk_iload hc xd_33_40 rfl) <|
    xl_cons (xk_bipush hc xd_33_42 (by decide)) <|
    xl_cons (xk_if_icmp hc xd_33_44 (by decide)) <|
    xl_cons (xk_iload hc xd_33_47 rfl) <|
    xl_cons (xk_bipush hc xd_33_49 (by decide)) <|
    xl_cons (xk_if_icmp hc xd_33_51 (by decide)) <|
    xl_cons (xk_iconst hc xd_33_54 (by decide)) <|
    xl_cons (xk_goto hc xd_33_55 (by decide)) <|
    xl_cons (xk_iconst hc xd_33_58 (by decide)) <|
    xl_cons (xk_istore hc xd_33_59 hm rfl (by decide)) <|
    xl_cons (xk_iload_n hc xd_33_61 rfl) <|
    xl_cons (xk_iload hc xd_33_62 rfl) <|
    xl_cons (xk_ifCond hc xd_33_64 (by decide)) <|
    xl_cons (xk_iconst hc xd_33_67 (by decide)) <|
    xl_cons (xk_goto hc xd_33_68 (by decide)) <|
    xl_cons (xk_iconst hc xd_33_71 (by decide)) <|
    xl_cons (xk_iadd hc xd_33_72) <|
    xl_cons (xk_istore_n hc xd_33_73 hm rfl (by decide)) (xl_nil)
set_option maxRecDepth 100000 in
theorem xo_33_1 : ∀ e ∈ ([(74, 3, .iinc 5 (-8), 5, 0, .int (-8), [], none),
  (77, 3, .goto (-63), 14, 0, .null, [], none),
  (80, 1, .aload_n 0, 0, 0, .null, [], none),
  (81, 2, .iload 4, 4, 0, .null, [], none),
  (83, 3, .ifCond .ne 7, 90, 0, .null, [], none),
  (86, 1, .iconst 1, 0, 0, .int 1, [], none),
  (87, 3, .goto 4, 91, 0, .null, [], none),
  (90, 1, .iconst 0, 0, 0, .int 0, [], none),
  (91, 1, .iconst 1, 0, 0, .int 1, [], none),
  (92, 3, .invokevirtual 75, 32, 3, .retAddr 0, [], none),
  (95, 3, .ifCond .ne 28, 123, 0, .null, [], none),
  (98, 1, .aload_n 0, 0, 0, .null, [], none),
  (99, 1, .aload_n 0, 0, 0, .null, [], none),
  (100, 3, .getfield 79, 9, 1, .null, [], none),
  (103, 1, .iload_n 3, 3, 0, .null, [], none),
  (104, 1, .iadd, 0, 0, .null, [], none),
  (105, 3, .sipush 1200, 0, 0, .int 1200, [], none),
  (108, 3, .if_icmp .le 7, 115, 0, .null, [], none),
  (111, 1, .iconst 1, 0, 0, .int 1, [], none),
  (112, 3, .goto 4, 116, 0, .null, [], none),
  (115, 1, .iconst 0, 0, 0, .int 0, [], none),
  (116, 1, .iconst 2, 0, 0, .int 2, [], none),
  (117, 3, .invokevirtual 75, 32, 3, .retAddr 0, [], none),
  (120, 3, .ifCond .eq 5, 125, 0, .null, [], none),
  (123, 1, .iconst 0, 0, 0, .int 0, [], none),
  (124, 1, .ireturn, 0, 0, .null, [], none),
  (125, 2, .bipush 56, 0, 0, .int 56, [], none),
  (127, 2, .istore 5, 5, 0, .null, [], none),
  (129, 2, .iload 5, 5, 0, .null, [], none),
  (131, 3, .ifCond .lt 46, 177, 0, .null, [], none),
  (134, 1, .lload_n 1, 1, 0, .null, [], none),
  (135, 2, .iload 5, 5, 0, .null, [], none),
  (137, 1, .lshr, 0, 0, .null, [], none),
  (138, 3, .ldc2_w 73, 0, 0, .long 255, [], none),
  (141, 1, .land, 0, 0, .null, [], none),
  (142, 1, .l2i, 0, 0, .null, [], none),
  (143, 2, .istore 6, 6, 0, .null, [], none),
  (145, 2, .iload 6, 6, 0, .null, [], none),
  (147, 3, .ifCond .le 24, 171, 0, .null, [], none),
  (150, 1, .aload_n 0, 0, 0, .null, [], none)] : List xr_E), xr_sd xm_P 33 e := by
  have hc : xp_cd xm_P 33 = prog_12_method_4_code := rfl
  have ho : xp_own xm_P 33 = "ExchangeTextModel" := rfl
  have hm : xp_ml xm_P 33 = 7 := rfl
  exact xl_cons (xk_iinc hc xd_33_74 hm rfl (by decide) (by decide)) <|
    xl_cons (xk_goto hc xd_33_77 (by decide)) <|
    xl_cons (xk_aload_n hc xd_33_80 rfl) <|
    xl_cons (xk_iload hc xd_33_81 rfl) <|
    xl_cons (xk_ifCond hc xd_33_83 (by decide)) <|
    xl_cons (xk_iconst hc xd_33_86 (by decide)) <|
    xl_cons (xk_goto hc xd_33_87 (by decide)) <|
    xl_cons (xk_iconst hc xd_33_90 (by decide)) <|
    xl_cons (xk_iconst hc xd_33_91 (by decide)) <|
    xl_cons (xk_callV (Y := xm_y32) ho rfl (by decide) ⟨by decide, by decide⟩ xl_202 hc xd_33_92 rfl (b' := 2) rfl xm_nd32 (T := xm_T9) (N := 25) rfl xl_201 xl_203 xl_204) <|
    xl_cons (xk_ifCond hc xd_33_95 (by decide)) <|
    xl_cons (xk_aload_n hc xd_33_98 rfl) <|
    xl_cons (xk_aload_n hc xd_33_99 rfl) <|
    xl_cons (xk_getfield (C := xm_C9) (T := xm_T9) (N := 25) hc xd_33_100 ho rfl (by decide) xm_u9 xl_205) <|
    xl_cons (xk_iload_n hc xd_33_103 rfl) <|
    xl_cons (xk_iadd hc xd_33_104) <|
    xl_cons (xk_sipush hc xd_33_105 (by decide)) <|
    xl_cons (xk_if_icmp hc xd_33_108 (by decide)) <|
    xl_cons (xk_iconst hc xd_33_111 (by decide)) <|
    xl_cons (xk_goto hc xd_33_112 (by decide)) <|
    xl_cons (xk_iconst hc xd_33_115 (by decide)) <|
    xl_cons (xk_iconst hc xd_33_116 (by decide)) <|
    xl_cons (xk_callV (Y := xm_y32) ho rfl (by decide) ⟨by decide, by decide⟩ xl_202 hc xd_33_117 rfl (b' := 2) rfl xm_nd32 (T := xm_T9) (N := 25) rfl xl_201 xl_203 xl_204) <|
    xl_cons (xk_ifCond hc xd_33_120 (by decide)) <|
    xl_cons (xk_iconst hc xd_33_123 (by decide)) <|
    xl_cons (xk_ireturn hc xd_33_124) <|
    xl_cons (xk_bipush hc xd_33_125 (by decide)) <|
    xl_cons (xk_istore hc xd_33_127 hm rfl (by decide)) <|
    xl_cons (xk_iload hc xd_33_129 rfl) <|
    xl_cons (xk_ifCond hc xd_33_131 (by decide)) <|
    xl_cons (xk_lload_n hc xd_33_134 rfl) <|
    xl_cons (xk_iload hc xd_33_135 rfl) <|
    xl_cons (xk_lshr hc xd_33_137) <|
    xl_cons (xk_ldc2 hc xd_33_138 ho rfl xl_200) <|
    xl_cons (xk_land hc xd_33_141) <|
    xl_cons (xk_l2i hc xd_33_142) <|
    xl_cons (xk_istore hc xd_33_143 hm rfl (by decide)) <|
    xl_cons (xk_iload hc xd_33_145 rfl) <|
    xl_cons (xk_ifCond hc xd_33_147 (by decide)) <|
    xl_cons (xk_aload_n hc xd_33_150 rfl) (xl_nil)
set_option maxRecDepth 100000 in
theorem xo_33_2 : ∀ e ∈ ([(151, 3, .getfield 7, 9, 2, .null, [], none),
  (154, 1, .aload_n 0, 0, 0, .null, [], none),
  (155, 3, .getfield 79, 9, 1, .null, [], none),
  (158, 2, .iload 6, 6, 0, .null, [], none),
  (160, 1, .iastore, 0, 0, .null, [], none),
  (161, 1, .aload_n 0, 0, 0, .null, [], none),
  (162, 1, .dup, 0, 0, .null, [], none),
  (163, 3, .getfield 79, 9, 1, .null, [], none),
  (166, 1, .iconst 1, 0, 0, .int 1, [], none),
  (167, 1, .iadd, 0, 0, .null, [], none),
  (168, 3, .putfield 79, 9, 1, .null, [], none),
  (171, 3, .iinc 5 (-8), 5, 0, .int (-8), [], none),
  (174, 3, .goto (-45), 129, 0, .null, [], none),
  (177, 1, .aload_n 0, 0, 0, .null, [], none),
  (178, 3, .getfield 79, 9, 1, .null, [], none),
  (181, 1, .ireturn, 0, 0, .null, [], none)] : List xr_E), xr_sd xm_P 33 e := by
  have hc : xp_cd xm_P 33 = prog_12_method_4_code := rfl
  have ho : xp_own xm_P 33 = "ExchangeTextModel" := rfl
  have hm : xp_ml xm_P 33 = 7 := rfl
  exact xl_cons (xk_getfield (C := xm_C9) (T := xm_T9) (N := 25) hc xd_33_151 ho rfl (by decide) xm_u9 xl_178) <|
    xl_cons (xk_aload_n hc xd_33_154 rfl) <|
    xl_cons (xk_getfield (C := xm_C9) (T := xm_T9) (N := 25) hc xd_33_155 ho rfl (by decide) xm_u9 xl_205) <|
    xl_cons (xk_iload hc xd_33_158 rfl) <|
    xl_cons (xk_iastore hc xd_33_160) <|
    xl_cons (xk_aload_n hc xd_33_161 rfl) <|
    xl_cons (xk_dup hc xd_33_162) <|
    xl_cons (xk_getfield (C := xm_C9) (T := xm_T9) (N := 25) hc xd_33_163 ho rfl (by decide) xm_u9 xl_205) <|
    xl_cons (xk_iconst hc xd_33_166 (by decide)) <|
    xl_cons (xk_iadd hc xd_33_167) <|
    xl_cons (xk_putfield (C := xm_C9) (T := xm_T9) (N := 25) (ty := xm_ty9) hc xd_33_168 ho rfl (by decide) xm_u9 xm_tk9 rfl xm_nm9 xl_205 rfl) <|
    xl_cons (xk_iinc hc xd_33_171 hm rfl (by decide) (by decide)) <|
    xl_cons (xk_goto hc xd_33_174 (by decide)) <|
    xl_cons (xk_aload_n hc xd_33_177 rfl) <|
    xl_cons (xk_getfield (C := xm_C9) (T := xm_T9) (N := 25) hc xd_33_178 ho rfl (by decide) xm_u9 xl_205) <|
    xl_cons (xk_ireturn hc xd_33_181) (xl_nil)
theorem xo_33 : ∀ e ∈ xm_i33, xr_sd xm_P 33 e := xl_app xo_33_0 (xl_app xo_33_1 (xo_33_2))
set_option maxRecDepth 100000 in
theorem xo_34_0 : ∀ e ∈ ([(0, 1, .aload_n 0, 0, 0, .null, [], none),
  (1, 1, .iconst 0, 0, 0, .int 0, [], none),
  (2, 3, .putfield 69, 9, 0, .null, [], none),
  (5, 1, .aload_n 0, 0, 0, .null, [], none),
  (6, 1, .iload_n 1, 1, 0, .null, [], none),
  (7, 3, .ifCond .lt 11, 18, 0, .null, [], none),
  (10, 1, .iload_n 1, 1, 0, .null, [], none),
  (11, 1, .aload_n 0, 0, 0, .null, [], none),
  (12, 3, .getfield 79, 9, 1, .null, [], none),
  (15, 3, .if_icmp .le 7, 22, 0, .null, [], none),
  (18, 1, .iconst 1, 0, 0, .int 1, [], none),
  (19, 3, .goto 4, 23, 0, .null, [], none),
  (22, 1, .iconst 0, 0, 0, .int 0, [], none),
  (23, 1, .iconst 1, 0, 0, .int 1, [], none),
  (24, 3, .invokevirtual 75, 32, 3, .retAddr 0, [], none),
  (27, 3, .ifCond .eq 5, 32, 0, .null, [], none),
  (30, 1, .iconst 0, 0, 0, .int 0, [], none),
  (31, 1, .ireturn, 0, 0, .null, [], none),
  (32, 1, .aload_n 0, 0, 0, .null, [], none),
  (33, 1, .dup, 0, 0, .null, [], none),
  (34, 3, .getfield 79, 9, 1, .null, [], none),
  (37, 1, .iload_n 1, 1, 0, .null, [], none),
  (38, 1, .isub, 0, 0, .null, [], none),
  (39, 3, .putfield 79, 9, 1, .null, [], none),
  (42, 1, .aload_n 0, 0, 0, .null, [], none),
  (43, 3, .getfield 79, 9, 1, .null, [], none),
  (46, 1, .ireturn, 0, 0, .null, [], none)] : List xr_E), xr_sd xm_P 34 e := by
  have hc : xp_cd xm_P 34 = prog_12_method_5_code := rfl
  have ho : xp_own xm_P 34 = "ExchangeTextModel" := rfl
  have hm : xp_ml xm_P 34 = 2 := rfl
  exact xl_cons (xk_aload_n hc xd_34_0 rfl) <|
    xl_cons (xk_iconst hc xd_34_1 (by decide)) <|
    xl_cons (xk_putfield (C := xm_C9) (T := xm_T9) (N := 25) (ty := xm_ty9) hc xd_34_2 ho rfl (by decide) xm_u9 xm_tk9 rfl xm_nm9 xl_199 rfl) <|
    xl_cons (xk_aload_n hc xd_34_5 rfl) <|
    xl_cons (xk_iload_n hc xd_34_6 rfl) <|
    xl_cons (xk_ifCond hc xd_34_7 (by decide)) <|
    xl_cons (xk_iload_n hc xd_34_10 rfl) <|
    xl_cons (xk_aload_n hc xd_34_11 rfl) <|
    xl_cons (xk_getfield (C := xm_C9) (T := xm_T9) (N := 25) hc xd_34_12 ho rfl (by decide) xm_u9 xl_205) <|
    xl_cons (xk_if_icmp hc xd_34_15 (by decide)) <|
    xl_cons (xk_iconst hc xd_34_18 (by decide)) <|
    xl_cons (xk_goto hc xd_34_19 (by decide)) <|
    xl_cons (xk_iconst hc xd_34_22 (by decide)) <|
    xl_cons (xk_iconst hc xd_34_23 (by decide)) <|
    xl_cons (xk_callV (Y := xm_y32) ho rfl (by decide) ⟨by decide, by decide⟩ xl_202 hc xd_34_24 rfl (b' := 2) rfl xm_nd32 (T := xm_T9) (N := 25) rfl xl_201 xl_203 xl_204) <|
    xl_cons (xk_ifCond hc xd_34_27 (by decide)) <|
    xl_cons (xk_iconst hc xd_34_30 (by decide)) <|
    xl_cons (xk_ireturn hc xd_34_31) <|
    xl_cons (xk_aload_n hc xd_34_32 rfl) <|
    xl_cons (xk_dup hc xd_34_33) <|
    xl_cons (xk_getfield (C := xm_C9) (T := xm_T9) (N := 25) hc xd_34_34 ho rfl (by decide) xm_u9 xl_205) <|
    xl_cons (xk_iload_n hc xd_34_37 rfl) <|
    xl_cons (xk_isub hc xd_34_38) <|
    xl_cons (xk_putfield (C := xm_C9) (T := xm_T9) (N := 25) (ty := xm_ty9) hc xd_34_39 ho rfl (by decide) xm_u9 xm_tk9 rfl xm_nm9 xl_205 rfl) <|
    xl_cons (xk_aload_n hc xd_34_42 rfl) <|
    xl_cons (xk_getfield (C := xm_C9) (T := xm_T9) (N := 25) hc xd_34_43 ho rfl (by decide) xm_u9 xl_205) <|
    xl_cons (xk_ireturn hc xd_34_46) (xl_nil)
theorem xo_34 : ∀ e ∈ xm_i34, xr_sd xm_P 34 e := xo_34_0
set_option maxRecDepth 100000 in
theorem xo_35_0 : ∀ e ∈ ([(0, 1, .aload_n 0, 0, 0, .null, [], none),
  (1, 1, .iconst 0, 0, 0, .int 0, [], none),
  (2, 3, .putfield 69, 9, 0, .null, [], none),
  (5, 1, .aload_n 0, 0, 0, .null, [], none),
  (6, 1, .iload_n 1, 1, 0, .null, [], none),
  (7, 3, .ifCond .lt 11, 18, 0, .null, [], none),
  (10, 1, .iload_n 1, 1, 0, .null, [], none),
  (11, 1, .aload_n 0, 0, 0, .null, [], none),
  (12, 3, .getfield 79, 9, 1, .null, [], none),
  (15, 3, .if_icmp .lt 7, 22, 0, .null, [], none),
  (18, 1, .iconst 1, 0, 0, .int 1, [], none),
  (19, 3, .goto 4, 23, 0, .null, [], none),
  (22, 1, .iconst 0, 0, 0, .int 0, [], none),
  (23, 1, .iconst 1, 0, 0, .int 1, [], none),
  (24, 3, .invokevirtual 75, 32, 3, .retAddr 0, [], none),
  (27, 3, .ifCond .eq 7, 34, 0, .null, [], none),
  (30, 1, .iconst 0, 0, 0, .int 0, [], none),
  (31, 3, .goto 9, 40, 0, .null, [], none),
  (34, 1, .aload_n 0, 0, 0, .null, [], none),
  (35, 3, .getfield 7, 9, 2, .null, [], none),
  (38, 1, .iload_n 1, 1, 0, .null, [], none),
  (39, 1, .iaload, 0, 0, .null, [], none),
  (40, 1, .ireturn, 0, 0, .null, [], none)] : List xr_E), xr_sd xm_P 35 e := by
  have hc : xp_cd xm_P 35 = prog_12_method_6_code := rfl
  have ho : xp_own xm_P 35 = "ExchangeTextModel" := rfl
  have hm : xp_ml xm_P 35 = 2 := rfl
  exact xl_cons (xk_aload_n hc xd_35_0 rfl) <|
    xl_cons (xk_iconst hc xd_35_1 (by decide)) <|
    xl_cons (xk_putfield (C := xm_C9) (T := xm_T9) (N := 25) (ty := xm_ty9) hc xd_35_2 ho rfl (by decide) xm_u9 xm_tk9 rfl xm_nm9 xl_199 rfl) <|
    xl_cons (xk_aload_n hc xd_35_5 rfl) <|
    xl_cons (xk_iload_n hc xd_35_6 rfl) <|
    xl_cons (xk_ifCond hc xd_35_7 (by decide)) <|
    xl_cons (xk_iload_n hc xd_35_10 rfl) <|
    xl_cons (xk_aload_n hc xd_35_11 rfl) <|
    xl_cons (xk_getfield (C := xm_C9) (T := xm_T9) (N := 25) hc xd_35_12 ho rfl (by decide) xm_u9 xl_205) <|
    xl_cons (xk_if_icmp hc xd_35_15 (by decide)) <|
    xl_cons (xk_iconst hc xd_35_18 (by decide)) <|
    xl_cons (xk_goto hc xd_35_19 (by decide)) <|
    xl_cons (xk_iconst hc xd_35_22 (by decide)) <|
    xl_cons (xk_iconst hc xd_35_23 (by decide)) <|
    xl_cons (xk_callV (Y := xm_y32) ho rfl (by decide) ⟨by decide, by decide⟩ xl_202 hc xd_35_24 rfl (b' := 2) rfl xm_nd32 (T := xm_T9) (N := 25) rfl xl_201 xl_203 xl_204) <|
    xl_cons (xk_ifCond hc xd_35_27 (by decide)) <|
    xl_cons (xk_iconst hc xd_35_30 (by decide)) <|
    xl_cons (xk_goto hc xd_35_31 (by decide)) <|
    xl_cons (xk_aload_n hc xd_35_34 rfl) <|
    xl_cons (xk_getfield (C := xm_C9) (T := xm_T9) (N := 25) hc xd_35_35 ho rfl (by decide) xm_u9 xl_178) <|
    xl_cons (xk_iload_n hc xd_35_38 rfl) <|
    xl_cons (xk_iaload hc xd_35_39) <|
    xl_cons (xk_ireturn hc xd_35_40) (xl_nil)
theorem xo_35 : ∀ e ∈ xm_i35, xr_sd xm_P 35 e := xo_35_0
set_option maxRecDepth 100000 in
theorem xo_36_0 : ∀ e ∈ ([(0, 1, .aload_n 0, 0, 0, .null, [], none),
  (1, 3, .getfield 82, 9, 18, .null, [], none),
  (4, 1, .aload_n 0, 0, 0, .null, [], none),
  (5, 3, .getfield 79, 9, 1, .null, [], none),
  (8, 3, .if_icmp .ge 30, 38, 0, .null, [], none),
  (11, 1, .aload_n 0, 0, 0, .null, [], none),
  (12, 3, .getfield 7, 9, 2, .null, [], none),
  (15, 1, .aload_n 0, 0, 0, .null, [], none),
  (16, 3, .getfield 82, 9, 18, .null, [], none),
  (19, 1, .iaload, 0, 0, .null, [], none),
  (20, 2, .bipush 32, 0, 0, .int 32, [], none),
  (22, 3, .if_icmp .ne 16, 38, 0, .null, [], none),
  (25, 1, .aload_n 0, 0, 0, .null, [], none),
  (26, 1, .dup, 0, 0, .null, [], none),
  (27, 3, .getfield 82, 9, 18, .null, [], none),
  (30, 1, .iconst 1, 0, 0, .int 1, [], none),
  (31, 1, .iadd, 0, 0, .null, [], none),
  (32, 3, .putfield 82, 9, 18, .null, [], none),
  (35, 3, .goto (-35), 0, 0, .null, [], none),
  (38, 1, .aload_n 0, 0, 0, .null, [], none),
  (39, 3, .getfield 82, 9, 18, .null, [], none),
  (42, 1, .aload_n 0, 0, 0, .null, [], none),
  (43, 3, .getfield 79, 9, 1, .null, [], none),
  (46, 3, .if_icmp .ge 15, 61, 0, .null, [], none),
  (49, 1, .aload_n 0, 0, 0, .null, [], none),
  (50, 3, .getfield 7, 9, 2, .null, [], none),
  (53, 1, .aload_n 0, 0, 0, .null, [], none),
  (54, 3, .getfield 82, 9, 18, .null, [], none),
  (57, 1, .iaload, 0, 0, .null, [], none),
  (58, 3, .goto 4, 62, 0, .null, [], none),
  (61, 1, .iconst 0, 0, 0, .int 0, [], none),
  (62, 1, .ireturn, 0, 0, .null, [], none)] : List xr_E), xr_sd xm_P 36 e := by
  have hc : xp_cd xm_P 36 = prog_12_method_7_code := rfl
  have ho : xp_own xm_P 36 = "ExchangeTextModel" := rfl
  have hm : xp_ml xm_P 36 = 1 := rfl
  exact xl_cons (xk_aload_n hc xd_36_0 rfl) <|
    xl_cons (xk_getfield (C := xm_C9) (T := xm_T9) (N := 25) hc xd_36_1 ho rfl (by decide) xm_u9 xl_206) <|
    xl_cons (xk_aload_n hc xd_36_4 rfl) <|
    xl_cons (xk_getfield (C := xm_C9) (T := xm_T9) (N := 25) hc xd_36_5 ho rfl (by decide) xm_u9 xl_205) <|
    xl_cons (xk_if_icmp hc xd_36_8 (by decide)) <|
    xl_cons (xk_aload_n hc xd_36_11 rfl) <|
    xl_cons (xk_getfield (C := xm_C9) (T := xm_T9) (N := 25) hc xd_36_12 ho rfl (by decide) xm_u9 xl_178) <|
    xl_cons (xk_aload_n hc xd_36_15 rfl) <|
    xl_cons (xk_getfield (C := xm_C9) (T := xm_T9) (N := 25) hc xd_36_16 ho rfl (by decide) xm_u9 xl_206) <|
    xl_cons (xk_iaload hc xd_36_19) <|
    xl_cons (xk_bipush hc xd_36_20 (by decide)) <|
    xl_cons (xk_if_icmp hc xd_36_22 (by decide)) <|
    xl_cons (xk_aload_n hc xd_36_25 rfl) <|
    xl_cons (xk_dup hc xd_36_26) <|
    xl_cons (xk_getfield (C := xm_C9) (T := xm_T9) (N := 25) hc xd_36_27 ho rfl (by decide) xm_u9 xl_206) <|
    xl_cons (xk_iconst hc xd_36_30 (by decide)) <|
    xl_cons (xk_iadd hc xd_36_31) <|
    xl_cons (xk_putfield (C := xm_C9) (T := xm_T9) (N := 25) (ty := xm_ty9) hc xd_36_32 ho rfl (by decide) xm_u9 xm_tk9 rfl xm_nm9 xl_206 rfl) <|
    xl_cons (xk_goto hc xd_36_35 (by decide)) <|
    xl_cons (xk_aload_n hc xd_36_38 rfl) <|
    xl_cons (xk_getfield (C := xm_C9) (T := xm_T9) (N := 25) hc xd_36_39 ho rfl (by decide) xm_u9 xl_206) <|
    xl_cons (xk_aload_n hc xd_36_42 rfl) <|
    xl_cons (xk_getfield (C := xm_C9) (T := xm_T9) (N := 25) hc xd_36_43 ho rfl (by decide) xm_u9 xl_205) <|
    xl_cons (xk_if_icmp hc xd_36_46 (by decide)) <|
    xl_cons (xk_aload_n hc xd_36_49 rfl) <|
    xl_cons (xk_getfield (C := xm_C9) (T := xm_T9) (N := 25) hc xd_36_50 ho rfl (by decide) xm_u9 xl_178) <|
    xl_cons (xk_aload_n hc xd_36_53 rfl) <|
    xl_cons (xk_getfield (C := xm_C9) (T := xm_T9) (N := 25) hc xd_36_54 ho rfl (by decide) xm_u9 xl_206) <|
    xl_cons (xk_iaload hc xd_36_57) <|
    xl_cons (xk_goto hc xd_36_58 (by decide)) <|
    xl_cons (xk_iconst hc xd_36_61 (by decide)) <|
    xl_cons (xk_ireturn hc xd_36_62) (xl_nil)
theorem xo_36 : ∀ e ∈ xm_i36, xr_sd xm_P 36 e := xo_36_0
set_option maxRecDepth 100000 in
theorem xo_37_0 : ∀ e ∈ ([(0, 1, .iload_n 0, 0, 0, .null, [], none),
  (1, 2, .bipush 48, 0, 0, .int 48, [], none),
  (3, 3, .if_icmp .lt 13, 16, 0, .null, [], none),
  (6, 1, .iload_n 0, 0, 0, .null, [], none),
  (7, 2, .bipush 57, 0, 0, .int 57, [], none),
  (9, 3, .if_icmp .gt 7, 16, 0, .null, [], none),
  (12, 1, .iconst 1, 0, 0, .int 1, [], none),
  (13, 3, .goto 4, 17, 0, .null, [], none),
  (16, 1, .iconst 0, 0, 0, .int 0, [], none),
  (17, 1, .ireturn, 0, 0, .null, [], none)] : List xr_E), xr_sd xm_P 37 e := by
  have hc : xp_cd xm_P 37 = prog_12_method_8_code := rfl
  have ho : xp_own xm_P 37 = "ExchangeTextModel" := rfl
  have hm : xp_ml xm_P 37 = 1 := rfl
  exact xl_cons (xk_iload_n hc xd_37_0 rfl) <|
    xl_cons (xk_bipush hc xd_37_1 (by decide)) <|
    xl_cons (xk_if_icmp hc xd_37_3 (by decide)) <|
    xl_cons (xk_iload_n hc xd_37_6 rfl) <|
    xl_cons (xk_bipush hc xd_37_7 (by decide)) <|
    xl_cons (xk_if_icmp hc xd_37_9 (by decide)) <|
    xl_cons (xk_iconst hc xd_37_12 (by decide)) <|
    xl_cons (xk_goto hc xd_37_13 (by decide)) <|
    xl_cons (xk_iconst hc xd_37_16 (by decide)) <|
    xl_cons (xk_ireturn hc xd_37_17) (xl_nil)
theorem xo_37 : ∀ e ∈ xm_i37, xr_sd xm_P 37 e := xo_37_0
set_option maxRecDepth 100000 in
theorem xo_38_0 : ∀ e ∈ ([(0, 1, .iload_n 0, 0, 0, .null, [], none),
  (1, 2, .bipush 65, 0, 0, .int 65, [], none),
  (3, 3, .if_icmp .lt 13, 16, 0, .null, [], none),
  (6, 1, .iload_n 0, 0, 0, .null, [], none),
  (7, 2, .bipush 90, 0, 0, .int 90, [], none),
  (9, 3, .if_icmp .gt 7, 16, 0, .null, [], none),
  (12, 1, .iconst 1, 0, 0, .int 1, [], none),
  (13, 3, .goto 4, 17, 0, .null, [], none),
  (16, 1, .iconst 0, 0, 0, .int 0, [], none),
  (17, 1, .ireturn, 0, 0, .null, [], none)] : List xr_E), xr_sd xm_P 38 e := by
  have hc : xp_cd xm_P 38 = prog_12_method_9_code := rfl
  have ho : xp_own xm_P 38 = "ExchangeTextModel" := rfl
  have hm : xp_ml xm_P 38 = 1 := rfl
  exact xl_cons (xk_iload_n hc xd_38_0 rfl) <|
    xl_cons (xk_bipush hc xd_38_1 (by decide)) <|
    xl_cons (xk_if_icmp hc xd_38_3 (by decide)) <|
    xl_cons (xk_iload_n hc xd_38_6 rfl) <|
    xl_cons (xk_bipush hc xd_38_7 (by decide)) <|
    xl_cons (xk_if_icmp hc xd_38_9 (by decide)) <|
    xl_cons (xk_iconst hc xd_38_12 (by decide)) <|
    xl_cons (xk_goto hc xd_38_13 (by decide)) <|
    xl_cons (xk_iconst hc xd_38_16 (by decide)) <|
    xl_cons (xk_ireturn hc xd_38_17) (xl_nil)
theorem xo_38 : ∀ e ∈ xm_i38, xr_sd xm_P 38 e := xo_38_0
set_option maxRecDepth 100000 in
theorem xo_39_0 : ∀ e ∈ ([(0, 1, .aload_n 0, 0, 0, .null, [], none),
  (1, 3, .getfield 85, 9, 19, .null, [], none),
  (4, 1, .iconst (-1), 0, 0, .int (-1), [], none),
  (5, 3, .if_icmp .ne 8, 13, 0, .null, [], none),
  (8, 1, .aload_n 0, 0, 0, .null, [], none),
  (9, 1, .iload_n 1, 1, 0, .null, [], none),
  (10, 3, .putfield 85, 9, 19, .null, [], none),
  (13, 1, .return_, 0, 0, .null, [], none)] : List xr_E), xr_sd xm_P 39 e := by
  have hc : xp_cd xm_P 39 = prog_12_method_10_code := rfl
  have ho : xp_own xm_P 39 = "ExchangeTextModel" := rfl
  have hm : xp_ml xm_P 39 = 2 := rfl
  exact xl_cons (xk_aload_n hc xd_39_0 rfl) <|
    xl_cons (xk_getfield (C := xm_C9) (T := xm_T9) (N := 25) hc xd_39_1 ho rfl (by decide) xm_u9 xl_207) <|
    xl_cons (xk_iconst hc xd_39_4 (by decide)) <|
    xl_cons (xk_if_icmp hc xd_39_5 (by decide)) <|
    xl_cons (xk_aload_n hc xd_39_8 rfl) <|
    xl_cons (xk_iload_n hc xd_39_9 rfl) <|
    xl_cons (xk_putfield (C := xm_C9) (T := xm_T9) (N := 25) (ty := xm_ty9) hc xd_39_10 ho rfl (by decide) xm_u9 xm_tk9 rfl xm_nm9 xl_207 rfl) <|
    xl_cons (xk_return_ hc xd_39_13) (xl_nil)
theorem xo_39 : ∀ e ∈ xm_i39, xr_sd xm_P 39 e := xo_39_0
set_option maxRecDepth 100000 in
theorem xo_40_0 : ∀ e ∈ ([(0, 1, .aload_n 0, 0, 0, .null, [], none),
  (1, 3, .getfield 85, 9, 19, .null, [], none),
  (4, 1, .iconst (-1), 0, 0, .int (-1), [], none),
  (5, 3, .if_icmp .eq 4, 9, 0, .null, [], none),
  (8, 1, .return_, 0, 0, .null, [], none),
  (9, 1, .aload_n 0, 0, 0, .null, [], none),
  (10, 3, .invokevirtual 88, 36, 1, .retAddr 0, [], none),
  (13, 1, .iload_n 1, 1, 0, .null, [], none),
  (14, 3, .if_icmp .ne 16, 30, 0, .null, [], none),
  (17, 1, .aload_n 0, 0, 0, .null, [], none),
  (18, 1, .dup, 0, 0, .null, [], none),
  (19, 3, .getfield 82, 9, 18, .null, [], none),
  (22, 1, .iconst 1, 0, 0, .int 1, [], none),
  (23, 1, .iadd, 0, 0, .null, [], none),
  (24, 3, .putfield 82, 9, 18, .null, [], none),
  (27, 3, .goto 11, 38, 0, .null, [], none),
  (30, 1, .aload_n 0, 0, 0, .null, [], none),
  (31, 1, .aload_n 0, 0, 0, .null, [], none),
  (32, 3, .getfield 82, 9, 18, .null, [], none),
  (35, 3, .invokevirtual 92, 39, 2, .retAddr 0, [], none),
  (38, 1, .return_, 0, 0, .null, [], none)] : List xr_E), xr_sd xm_P 40 e := by
  have hc : xp_cd xm_P 40 = prog_12_method_11_code := rfl
  have ho : xp_own xm_P 40 = "ExchangeTextModel" := rfl
  have hm : xp_ml xm_P 40 = 2 := rfl
  exact xl_cons (xk_aload_n hc xd_40_0 rfl) <|
    xl_cons (xk_getfield (C := xm_C9) (T := xm_T9) (N := 25) hc xd_40_1 ho rfl (by decide) xm_u9 xl_207) <|
    xl_cons (xk_iconst hc xd_40_4 (by decide)) <|
    xl_cons (xk_if_icmp hc xd_40_5 (by decide)) <|
    xl_cons (xk_return_ hc xd_40_8) <|
    xl_cons (xk_aload_n hc xd_40_9 rfl) <|
    xl_cons (xk_callV (Y := xm_y36) ho rfl (by decide) ⟨by decide, by decide⟩ xl_202 hc xd_40_10 rfl (b' := 0) rfl xm_nd36 (T := xm_T9) (N := 25) rfl xl_208 xl_209 xl_210) <|
    xl_cons (xk_iload_n hc xd_40_13 rfl) <|
    xl_cons (xk_if_icmp hc xd_40_14 (by decide)) <|
    xl_cons (xk_aload_n hc xd_40_17 rfl) <|
    xl_cons (xk_dup hc xd_40_18) <|
    xl_cons (xk_getfield (C := xm_C9) (T := xm_T9) (N := 25) hc xd_40_19 ho rfl (by decide) xm_u9 xl_206) <|
    xl_cons (xk_iconst hc xd_40_22 (by decide)) <|
    xl_cons (xk_iadd hc xd_40_23) <|
    xl_cons (xk_putfield (C := xm_C9) (T := xm_T9) (N := 25) (ty := xm_ty9) hc xd_40_24 ho rfl (by decide) xm_u9 xm_tk9 rfl xm_nm9 xl_206 rfl) <|
    xl_cons (xk_goto hc xd_40_27 (by decide)) <|
    xl_cons (xk_aload_n hc xd_40_30 rfl) <|
    xl_cons (xk_aload_n hc xd_40_31 rfl) <|
    xl_cons (xk_getfield (C := xm_C9) (T := xm_T9) (N := 25) hc xd_40_32 ho rfl (by decide) xm_u9 xl_206) <|
    xl_cons (xk_callV (Y := xm_y39) ho rfl (by decide) ⟨by decide, by decide⟩ xl_202 hc xd_40_35 rfl (b' := 1) rfl xm_nd39 (T := xm_T9) (N := 25) rfl xl_211 xl_212 xl_213) <|
    xl_cons (xk_return_ hc xd_40_38) (xl_nil)
theorem xo_40 : ∀ e ∈ xm_i40, xr_sd xm_P 40 e := xo_40_0
set_option maxRecDepth 100000 in
theorem xo_41_0 : ∀ e ∈ ([(0, 1, .aload_n 0, 0, 0, .null, [], none),
  (1, 3, .getfield 85, 9, 19, .null, [], none),
  (4, 1, .iconst (-1), 0, 0, .int (-1), [], none),
  (5, 3, .if_icmp .eq 5, 10, 0, .null, [], none),
  (8, 1, .iconst 0, 0, 0, .int 0, [], none),
  (9, 1, .ireturn, 0, 0, .null, [], none),
  (10, 1, .aload_n 0, 0, 0, .null, [], none),
  (11, 3, .invokevirtual 88, 36, 1, .retAddr 0, [], none),
  (14, 1, .pop, 0, 0, .null, [], none),
  (15, 1, .aload_n 0, 0, 0, .null, [], none),
  (16, 1, .aload_n 0, 0, 0, .null, [], none),
  (17, 3, .getfield 82, 9, 18, .null, [], none),
  (20, 3, .putfield 96, 9, 20, .null, [], none),
  (23, 1, .iconst 0, 0, 0, .int 0, [], none),
  (24, 1, .istore_n 3, 3, 0, .null, [], none),
  (25, 1, .aload_n 0, 0, 0, .null, [], none),
  (26, 3, .getfield 82, 9, 18, .null, [], none),
  (29, 1, .aload_n 0, 0, 0, .null, [], none),
  (30, 3, .getfield 79, 9, 1, .null, [], none),
  (33, 3, .if_icmp .ge 63, 96, 0, .null, [], none),
  (36, 1, .aload_n 0, 0, 0, .null, [], none),
  (37, 3, .getfield 7, 9, 2, .null, [], none),
  (40, 1, .aload_n 0, 0, 0, .null, [], none),
  (41, 3, .getfield 82, 9, 18, .null, [], none),
  (44, 1, .iaload, 0, 0, .null, [], none),
  (45, 3, .invokestatic 99, 37, 1, .retAddr 2, [], none),
  (48, 3, .ifCond .eq 48, 96, 0, .null, [], none),
  (51, 1, .aload_n 0, 0, 0, .null, [], none),
  (52, 3, .getfield 82, 9, 18, .null, [], none),
  (55, 1, .aload_n 0, 0, 0, .null, [], none),
  (56, 3, .getfield 96, 9, 20, .null, [], none),
  (59, 1, .isub, 0, 0, .null, [], none),
  (60, 2, .bipush 9, 0, 0, .int 9, [], none),
  (62, 3, .if_icmp .ge 21, 83, 0, .null, [], none),
  (65, 2, .bipush 10, 0, 0, .int 10, [], none),
  (67, 1, .iload_n 3, 3, 0, .null, [], none),
  (68, 1, .imul, 0, 0, .null, [], none),
  (69, 1, .aload_n 0, 0, 0, .null, [], none),
  (70, 3, .getfield 7, 9, 2, .null, [], none),
  (73, 1, .aload_n 0, 0, 0, .null, [], none)] : List xr_E), xr_sd xm_P 41 e := by
  have hc : xp_cd xm_P 41 = prog_12_method_12_code := rfl
  have ho : xp_own xm_P 41 = "ExchangeTextModel" := rfl
  have hm : xp_ml xm_P 41 = 4 := rfl
  exact xl_cons (xk_aload_n hc xd_41_0 rfl) <|
    xl_cons (xk_getfield (C := xm_C9) (T := xm_T9) (N := 25) hc xd_41_1 ho rfl (by decide) xm_u9 xl_207) <|
    xl_cons (xk_iconst hc xd_41_4 (by decide)) <|
    xl_cons (xk_if_icmp hc xd_41_5 (by decide)) <|
    xl_cons (xk_iconst hc xd_41_8 (by decide)) <|
    xl_cons (xk_ireturn hc xd_41_9) <|
    xl_cons (xk_aload_n hc xd_41_10 rfl) <|
    xl_cons (xk_callV (Y := xm_y36) ho rfl (by decide) ⟨by decide, by decide⟩ xl_202 hc xd_41_11 rfl (b' := 0) rfl xm_nd36 (T := xm_T9) (N := 25) rfl xl_208 xl_209 xl_210) <|
    xl_cons (xk_pop hc xd_41_14) <|
    xl_cons (xk_aload_n hc xd_41_15 rfl) <|
    xl_cons (xk_aload_n hc xd_41_16 rfl) <|
    xl_cons (xk_getfield (C := xm_C9) (T := xm_T9) (N := 25) hc xd_41_17 ho rfl (by decide) xm_u9 xl_206) <|
    xl_cons (xk_putfield (C := xm_C9) (T := xm_T9) (N := 25) (ty := xm_ty9) hc xd_41_20 ho rfl (by decide) xm_u9 xm_tk9 rfl xm_nm9 xl_214 rfl) <|
    xl_cons (xk_iconst hc xd_41_23 (by decide)) <|
    xl_cons (xk_istore_n hc xd_41_24 hm rfl (by decide)) <|
    xl_cons (xk_aload_n hc xd_41_25 rfl) <|
    xl_cons (xk_getfield (C := xm_C9) (T := xm_T9) (N := 25) hc xd_41_26 ho rfl (by decide) xm_u9 xl_206) <|
    xl_cons (xk_aload_n hc xd_41_29 rfl) <|
    xl_cons (xk_getfield (C := xm_C9) (T := xm_T9) (N := 25) hc xd_41_30 ho rfl (by decide) xm_u9 xl_205) <|
    xl_cons (xk_if_icmp hc xd_41_33 (by decide)) <|
    xl_cons (xk_aload_n hc xd_41_36 rfl) <|
    xl_cons (xk_getfield (C := xm_C9) (T := xm_T9) (N := 25) hc xd_41_37 ho rfl (by decide) xm_u9 xl_178) <|
    xl_cons (xk_aload_n hc xd_41_40 rfl) <|
    xl_cons (xk_getfield (C := xm_C9) (T := xm_T9) (N := 25) hc xd_41_41 ho rfl (by decide) xm_u9 xl_206) <|
    xl_cons (xk_iaload hc xd_41_44) <|
    xl_cons (xk_callS (Y := xm_y37) ho rfl (by decide) ⟨by decide, by decide⟩ xl_202 hc xd_41_45 rfl xm_nd37 xl_215 xl_216) <|
    xl_cons (xk_ifCond hc xd_41_48 (by decide)) <|
    xl_cons (xk_aload_n hc xd_41_51 rfl) <|
    xl_cons (xk_getfield (C := xm_C9) (T := xm_T9) (N := 25) hc xd_41_52 ho rfl (by decide) xm_u9 xl_206) <|
    xl_cons (xk_aload_n hc xd_41_55 rfl) <|
    xl_cons (xk_getfield (C := xm_C9) (T := xm_T9) (N := 25) hc xd_41_56 ho rfl (by decide) xm_u9 xl_214) <|
    xl_cons (xk_isub hc xd_41_59) <|
    xl_cons (xk_bipush hc xd_41_60 (by decide)) <|
    xl_cons (xk_if_icmp hc xd_41_62 (by decide)) <|
    xl_cons (xk_bipush hc xd_41_65 (by decide)) <|
    xl_cons (xk_iload_n hc xd_41_67 rfl) <|
    xl_cons (xk_imul hc xd_41_68) <|
    xl_cons (xk_aload_n hc xd_41_69 rfl) <|
    xl_cons (xk_getfield (C := xm_C9) (T := xm_T9) (N := 25) hc xd_41_70 ho rfl (by decide) xm_u9 xl_178) <|
    xl_cons (xk_aload_n hc xd_41_73 rfl) (xl_nil)
set_option maxRecDepth 100000 in
theorem xo_41_1 : ∀ e ∈ ([(74, 3, .getfield 82, 9, 18, .null, [], none),
  (77, 1, .iaload, 0, 0, .null, [], none),
  (78, 1, .iadd, 0, 0, .null, [], none),
  (79, 2, .bipush 48, 0, 0, .int 48, [], none),
  (81, 1, .isub, 0, 0, .null, [], none),
  (82, 1, .istore_n 3, 3, 0, .null, [], none),
  (83, 1, .aload_n 0, 0, 0, .null, [], none),
  (84, 1, .dup, 0, 0, .null, [], none),
  (85, 3, .getfield 82, 9, 18, .null, [], none),
  (88, 1, .iconst 1, 0, 0, .int 1, [], none),
  (89, 1, .iadd, 0, 0, .null, [], none),
  (90, 3, .putfield 82, 9, 18, .null, [], none),
  (93, 3, .goto (-68), 25, 0, .null, [], none),
  (96, 1, .aload_n 0, 0, 0, .null, [], none),
  (97, 3, .getfield 82, 9, 18, .null, [], none),
  (100, 1, .aload_n 0, 0, 0, .null, [], none),
  (101, 3, .getfield 96, 9, 20, .null, [], none),
  (104, 3, .if_icmp .ne 11, 115, 0, .null, [], none),
  (107, 1, .aload_n 0, 0, 0, .null, [], none),
  (108, 1, .aload_n 0, 0, 0, .null, [], none),
  (109, 3, .getfield 82, 9, 18, .null, [], none),
  (112, 3, .invokevirtual 92, 39, 2, .retAddr 0, [], none),
  (115, 1, .aload_n 0, 0, 0, .null, [], none),
  (116, 3, .getfield 82, 9, 18, .null, [], none),
  (119, 1, .aload_n 0, 0, 0, .null, [], none),
  (120, 3, .getfield 96, 9, 20, .null, [], none),
  (123, 1, .isub, 0, 0, .null, [], none),
  (124, 1, .iload_n 1, 1, 0, .null, [], none),
  (125, 3, .if_icmp .le 20, 145, 0, .null, [], none),
  (128, 1, .aload_n 0, 0, 0, .null, [], none),
  (129, 1, .iload_n 2, 2, 0, .null, [], none),
  (130, 1, .iconst (-1), 0, 0, .int (-1), [], none),
  (131, 3, .if_icmp .ne 10, 141, 0, .null, [], none),
  (134, 1, .aload_n 0, 0, 0, .null, [], none),
  (135, 3, .getfield 96, 9, 20, .null, [], none),
  (138, 3, .goto 4, 142, 0, .null, [], none),
  (141, 1, .iload_n 2, 2, 0, .null, [], none),
  (142, 3, .invokevirtual 92, 39, 2, .retAddr 0, [], none),
  (145, 1, .iload_n 3, 3, 0, .null, [], none),
  (146, 1, .ireturn, 0, 0, .null, [], none)] : List xr_E), xr_sd xm_P 41 e := by
  have hc : xp_cd xm_P 41 = prog_12_method_12_code := rfl
  have ho : xp_own xm_P 41 = "ExchangeTextModel" := rfl
  have hm : xp_ml xm_P 41 = 4 := rfl
  exact xl_cons (xk_getfield (C := xm_C9) (T := xm_T9) (N := 25) hc xd_41_74 ho rfl (by decide) xm_u9 xl_206) <|
    xl_cons (xk_iaload hc xd_41_77) <|
    xl_cons (xk_iadd hc xd_41_78) <|
    xl_cons (xk_bipush hc xd_41_79 (by decide)) <|
    xl_cons (xk_isub hc xd_41_81) <|
    xl_cons (xk_istore_n hc xd_41_82 hm rfl (by decide)) <|
    xl_cons (xk_aload_n hc xd_41_83 rfl) <|
    xl_cons (xk_dup hc xd_41_84) <|
    xl_cons (xk_getfield (C := xm_C9) (T := xm_T9) (N := 25) hc xd_41_85 ho rfl (by decide) xm_u9 xl_206) <|
    xl_cons (xk_iconst hc xd_41_88 (by decide)) <|
    xl_cons (xk_iadd hc xd_41_89) <|
    xl_cons (xk_putfield (C := xm_C9) (T := xm_T9) (N := 25) (ty := xm_ty9) hc xd_41_90 ho rfl (by decide) xm_u9 xm_tk9 rfl xm_nm9 xl_206 rfl) <|
    xl_cons (xk_goto hc xd_41_93 (by decide)) <|
    xl_cons (xk_aload_n hc xd_41_96 rfl) <|
    xl_cons (xk_getfield (C := xm_C9) (T := xm_T9) (N := 25) hc xd_41_97 ho rfl (by decide) xm_u9 xl_206) <|
    xl_cons (xk_aload_n hc xd_41_100 rfl) <|
    xl_cons (xk_getfield (C := xm_C9) (T := xm_T9) (N := 25) hc xd_41_101 ho rfl (by decide) xm_u9 xl_214) <|
    xl_cons (xk_if_icmp hc xd_41_104 (by decide)) <|
    xl_cons (xk_aload_n hc xd_41_107 rfl) <|
    xl_cons (xk_aload_n hc xd_41_108 rfl) <|
    xl_cons (xk_getfield (C := xm_C9) (T := xm_T9) (N := 25) hc xd_41_109 ho rfl (by decide) xm_u9 xl_206) <|
    xl_cons (xk_callV (Y := xm_y39) ho rfl (by decide) ⟨by decide, by decide⟩ xl_202 hc xd_41_112 rfl (b' := 1) rfl xm_nd39 (T := xm_T9) (N := 25) rfl xl_211 xl_212 xl_213) <|
    xl_cons (xk_aload_n hc xd_41_115 rfl) <|
    xl_cons (xk_getfield (C := xm_C9) (T := xm_T9) (N := 25) hc xd_41_116 ho rfl (by decide) xm_u9 xl_206) <|
    xl_cons (xk_aload_n hc xd_41_119 rfl) <|
    xl_cons (xk_getfield (C := xm_C9) (T := xm_T9) (N := 25) hc xd_41_120 ho rfl (by decide) xm_u9 xl_214) <|
    xl_cons (xk_isub hc xd_41_123) <|
    xl_cons (xk_iload_n hc xd_41_124 rfl) <|
    xl_cons (xk_if_icmp hc xd_41_125 (by decide)) <|
    xl_cons (xk_aload_n hc xd_41_128 rfl) <|
    xl_cons (xk_iload_n hc xd_41_129 rfl) <|
    xl_cons (xk_iconst hc xd_41_130 (by decide)) <|
    xl_cons (xk_if_icmp hc xd_41_131 (by decide)) <|
    xl_cons (xk_aload_n hc xd_41_134 rfl) <|
    xl_cons (xk_getfield (C := xm_C9) (T := xm_T9) (N := 25) hc xd_41_135 ho rfl (by decide) xm_u9 xl_214) <|
    xl_cons (xk_goto hc xd_41_138 (by decide)) <|
    xl_cons (xk_iload_n hc xd_41_141 rfl) <|
    xl_cons (xk_callV (Y := xm_y39) ho rfl (by decide) ⟨by decide, by decide⟩ xl_202 hc xd_41_142 rfl (b' := 1) rfl xm_nd39 (T := xm_T9) (N := 25) rfl xl_211 xl_212 xl_213) <|
    xl_cons (xk_iload_n hc xd_41_145 rfl) <|
    xl_cons (xk_ireturn hc xd_41_146) (xl_nil)
theorem xo_41 : ∀ e ∈ xm_i41, xr_sd xm_P 41 e := xl_app xo_41_0 (xo_41_1)
set_option maxRecDepth 100000 in
theorem xo_42_0 : ∀ e ∈ ([(0, 1, .aload_n 0, 0, 0, .null, [], none),
  (1, 3, .getfield 85, 9, 19, .null, [], none),
  (4, 1, .iconst (-1), 0, 0, .int (-1), [], none),
  (5, 3, .if_icmp .eq 5, 10, 0, .null, [], none),
  (8, 1, .iconst 0, 0, 0, .int 0, [], none),
  (9, 1, .ireturn, 0, 0, .null, [], none),
  (10, 1, .aload_n 0, 0, 0, .null, [], none),
  (11, 3, .invokevirtual 88, 36, 1, .retAddr 0, [], none),
  (14, 1, .pop, 0, 0, .null, [], none),
  (15, 1, .aload_n 0, 0, 0, .null, [], none),
  (16, 1, .aload_n 0, 0, 0, .null, [], none),
  (17, 3, .getfield 82, 9, 18, .null, [], none),
  (20, 3, .putfield 96, 9, 20, .null, [], none),
  (23, 1, .aload_n 0, 0, 0, .null, [], none),
  (24, 3, .getfield 82, 9, 18, .null, [], none),
  (27, 1, .aload_n 0, 0, 0, .null, [], none),
  (28, 3, .getfield 79, 9, 1, .null, [], none),
  (31, 3, .if_icmp .ge 67, 98, 0, .null, [], none),
  (34, 1, .aload_n 0, 0, 0, .null, [], none),
  (35, 3, .getfield 7, 9, 2, .null, [], none),
  (38, 1, .aload_n 0, 0, 0, .null, [], none),
  (39, 3, .getfield 82, 9, 18, .null, [], none),
  (42, 1, .iaload, 0, 0, .null, [], none),
  (43, 3, .invokestatic 103, 38, 1, .retAddr 2, [], none),
  (46, 3, .ifCond .eq 52, 98, 0, .null, [], none),
  (49, 1, .aload_n 0, 0, 0, .null, [], none),
  (50, 3, .getfield 82, 9, 18, .null, [], none),
  (53, 1, .aload_n 0, 0, 0, .null, [], none),
  (54, 3, .getfield 96, 9, 20, .null, [], none),
  (57, 1, .isub, 0, 0, .null, [], none),
  (58, 2, .bipush 8, 0, 0, .int 8, [], none),
  (60, 3, .if_icmp .ge 25, 85, 0, .null, [], none),
  (63, 1, .aload_n 1, 1, 0, .null, [], none),
  (64, 1, .iload_n 2, 2, 0, .null, [], none),
  (65, 1, .aload_n 0, 0, 0, .null, [], none),
  (66, 3, .getfield 82, 9, 18, .null, [], none),
  (69, 1, .iadd, 0, 0, .null, [], none),
  (70, 1, .aload_n 0, 0, 0, .null, [], none),
  (71, 3, .getfield 96, 9, 20, .null, [], none),
  (74, 1, .isub, 0, 0, .null, [], none)] : List xr_E), xr_sd xm_P 42 e := by
  have hc : xp_cd xm_P 42 = prog_12_method_13_code := rfl
  have ho : xp_own xm_P 42 = "ExchangeTextModel" := rfl
  have hm : xp_ml xm_P 42 = 3 := rfl
  exact xl_cons (xk_aload_n hc xd_42_0 rfl) <|
    xl_cons (xk_getfield (C := xm_C9) (T := xm_T9) (N := 25) hc xd_42_1 ho rfl (by decide) xm_u9 xl_207) <|
    xl_cons (xk_iconst hc xd_42_4 (by decide)) <|
    xl_cons (xk_if_icmp hc xd_42_5 (by decide)) <|
    xl_cons (xk_iconst hc xd_42_8 (by decide)) <|
    xl_cons (xk_ireturn hc xd_42_9) <|
    xl_cons (xk_aload_n hc xd_42_10 rfl) <|
    xl_cons (xk_callV (Y := xm_y36) ho rfl (by decide) ⟨by decide, by decide⟩ xl_202 hc xd_42_11 rfl (b' := 0) rfl xm_nd36 (T := xm_T9) (N := 25) rfl xl_208 xl_209 xl_210) <|
    xl_cons (xk_pop hc xd_42_14) <|
    xl_cons (xk_aload_n hc xd_42_15 rfl) <|
    xl_cons (xk_aload_n hc xd_42_16 rfl) <|
    xl_cons (xk_getfield (C := xm_C9) (T := xm_T9) (N := 25) hc xd_42_17 ho rfl (by decide) xm_u9 xl_206) <|
    xl_cons (xk_putfield (C := xm_C9) (T := xm_T9) (N := 25) (ty := xm_ty9) hc xd_42_20 ho rfl (by decide) xm_u9 xm_tk9 rfl xm_nm9 xl_214 rfl) <|
    xl_cons (xk_aload_n hc xd_42_23 rfl) <|
    xl_cons (xk_getfield (C := xm_C9) (T := xm_T9) (N := 25) hc xd_42_24 ho rfl (by decide) xm_u9 xl_206) <|
    xl_cons (xk_aload_n hc xd_42_27 rfl) <|
    xl_cons (xk_getfield (C := xm_C9) (T := xm_T9) (N := 25) hc xd_42_28 ho rfl (by decide) xm_u9 xl_205) <|
    xl_cons (xk_if_icmp hc xd_42_31 (by decide)) <|
    xl_cons (xk_aload_n hc xd_42_34 rfl) <|
    xl_cons (xk_getfield (C := xm_C9) (T := xm_T9) (N := 25) hc xd_42_35 ho rfl (by decide) xm_u9 xl_178) <|
    xl_cons (xk_aload_n hc xd_42_38 rfl) <|
    xl_cons (xk_getfield (C := xm_C9) (T := xm_T9) (N := 25) hc xd_42_39 ho rfl (by decide) xm_u9 xl_206) <|
    xl_cons (xk_iaload hc xd_42_42) <|
    xl_cons (xk_callS (Y := xm_y38) ho rfl (by decide) ⟨by decide, by decide⟩ xl_202 hc xd_42_43 rfl xm_nd38 xl_217 xl_218) <|
    xl_cons (xk_ifCond hc xd_42_46 (by decide)) <|
    xl_cons (xk_aload_n hc xd_42_49 rfl) <|
    xl_cons (xk_getfield (C := xm_C9) (T := xm_T9) (N := 25) hc xd_42_50 ho rfl (by decide) xm_u9 xl_206) <|
    xl_cons (xk_aload_n hc xd_42_53 rfl) <|
    xl_cons (xk_getfield (C := xm_C9) (T := xm_T9) (N := 25) hc xd_42_54 ho rfl (by decide) xm_u9 xl_214) <|
    xl_cons (xk_isub hc xd_42_57) <|
    xl_cons (xk_bipush hc xd_42_58 (by decide)) <|
    xl_cons (xk_if_icmp hc xd_42_60 (by decide)) <|
    xl_cons (xk_aload_n hc xd_42_63 rfl) <|
    xl_cons (xk_iload_n hc xd_42_64 rfl) <|
    xl_cons (xk_aload_n hc xd_42_65 rfl) <|
    xl_cons (xk_getfield (C := xm_C9) (T := xm_T9) (N := 25) hc xd_42_66 ho rfl (by decide) xm_u9 xl_206) <|
    xl_cons (xk_iadd hc xd_42_69) <|
    xl_cons (xk_aload_n hc xd_42_70 rfl) <|
    xl_cons (xk_getfield (C := xm_C9) (T := xm_T9) (N := 25) hc xd_42_71 ho rfl (by decide) xm_u9 xl_214) <|
    xl_cons (xk_isub hc xd_42_74) (xl_nil)
set_option maxRecDepth 100000 in
theorem xo_42_1 : ∀ e ∈ ([(75, 1, .aload_n 0, 0, 0, .null, [], none),
  (76, 3, .getfield 7, 9, 2, .null, [], none),
  (79, 1, .aload_n 0, 0, 0, .null, [], none),
  (80, 3, .getfield 82, 9, 18, .null, [], none),
  (83, 1, .iaload, 0, 0, .null, [], none),
  (84, 1, .iastore, 0, 0, .null, [], none),
  (85, 1, .aload_n 0, 0, 0, .null, [], none),
  (86, 1, .dup, 0, 0, .null, [], none),
  (87, 3, .getfield 82, 9, 18, .null, [], none),
  (90, 1, .iconst 1, 0, 0, .int 1, [], none),
  (91, 1, .iadd, 0, 0, .null, [], none),
  (92, 3, .putfield 82, 9, 18, .null, [], none),
  (95, 3, .goto (-72), 23, 0, .null, [], none),
  (98, 1, .aload_n 0, 0, 0, .null, [], none),
  (99, 3, .getfield 82, 9, 18, .null, [], none),
  (102, 1, .aload_n 0, 0, 0, .null, [], none),
  (103, 3, .getfield 96, 9, 20, .null, [], none),
  (106, 3, .if_icmp .eq 17, 123, 0, .null, [], none),
  (109, 1, .aload_n 0, 0, 0, .null, [], none),
  (110, 3, .getfield 82, 9, 18, .null, [], none),
  (113, 1, .aload_n 0, 0, 0, .null, [], none),
  (114, 3, .getfield 96, 9, 20, .null, [], none),
  (117, 1, .isub, 0, 0, .null, [], none),
  (118, 2, .bipush 8, 0, 0, .int 8, [], none),
  (120, 3, .if_icmp .le 11, 131, 0, .null, [], none),
  (123, 1, .aload_n 0, 0, 0, .null, [], none),
  (124, 1, .aload_n 0, 0, 0, .null, [], none),
  (125, 3, .getfield 96, 9, 20, .null, [], none),
  (128, 3, .invokevirtual 92, 39, 2, .retAddr 0, [], none),
  (131, 1, .aload_n 0, 0, 0, .null, [], none),
  (132, 3, .getfield 82, 9, 18, .null, [], none),
  (135, 1, .aload_n 0, 0, 0, .null, [], none),
  (136, 3, .getfield 96, 9, 20, .null, [], none),
  (139, 1, .isub, 0, 0, .null, [], none),
  (140, 1, .ireturn, 0, 0, .null, [], none)] : List xr_E), xr_sd xm_P 42 e := by
  have hc : xp_cd xm_P 42 = prog_12_method_13_code := rfl
  have ho : xp_own xm_P 42 = "ExchangeTextModel" := rfl
  have hm : xp_ml xm_P 42 = 3 := rfl
  exact xl_cons (xk_aload_n hc xd_42_75 rfl) <|
    xl_cons (xk_getfield (C := xm_C9) (T := xm_T9) (N := 25) hc xd_42_76 ho rfl (by decide) xm_u9 xl_178) <|
    xl_cons (xk_aload_n hc xd_42_79 rfl) <|
    xl_cons (xk_getfield (C := xm_C9) (T := xm_T9) (N := 25) hc xd_42_80 ho rfl (by decide) xm_u9 xl_206) <|
    xl_cons (xk_iaload hc xd_42_83) <|
    xl_cons (xk_iastore hc xd_42_84) <|
    xl_cons (xk_aload_n hc xd_42_85 rfl) <|
    xl_cons (xk_dup hc xd_42_86) <|
    xl_cons (xk_getfield (C := xm_C9) (T := xm_T9) (N := 25) hc xd_42_87 ho rfl (by decide) xm_u9 xl_206) <|
    xl_cons (xk_iconst hc xd_42_90 (by decide)) <|
    xl_cons (xk_iadd hc xd_42_91) <|
    xl_cons (xk_putfield (C := xm_C9) (T := xm_T9) (N := 25) (ty := xm_ty9) hc xd_42_92 ho rfl (by decide) xm_u9 xm_tk9 rfl xm_nm9 xl_206 rfl) <|
    xl_cons (xk_goto hc xd_42_95 (by decide)) <|
    xl_cons (xk_aload_n hc xd_42_98 rfl) <|
    xl_cons (xk_getfield (C := xm_C9) (T := xm_T9) (N := 25) hc xd_42_99 ho rfl (by decide) xm_u9 xl_206) <|
    xl_cons (xk_aload_n hc xd_42_102 rfl) <|
    xl_cons (xk_getfield (C := xm_C9) (T := xm_T9) (N := 25) hc xd_42_103 ho rfl (by decide) xm_u9 xl_214) <|
    xl_cons (xk_if_icmp hc xd_42_106 (by decide)) <|
    xl_cons (xk_aload_n hc xd_42_109 rfl) <|
    xl_cons (xk_getfield (C := xm_C9) (T := xm_T9) (N := 25) hc xd_42_110 ho rfl (by decide) xm_u9 xl_206) <|
    xl_cons (xk_aload_n hc xd_42_113 rfl) <|
    xl_cons (xk_getfield (C := xm_C9) (T := xm_T9) (N := 25) hc xd_42_114 ho rfl (by decide) xm_u9 xl_214) <|
    xl_cons (xk_isub hc xd_42_117) <|
    xl_cons (xk_bipush hc xd_42_118 (by decide)) <|
    xl_cons (xk_if_icmp hc xd_42_120 (by decide)) <|
    xl_cons (xk_aload_n hc xd_42_123 rfl) <|
    xl_cons (xk_aload_n hc xd_42_124 rfl) <|
    xl_cons (xk_getfield (C := xm_C9) (T := xm_T9) (N := 25) hc xd_42_125 ho rfl (by decide) xm_u9 xl_214) <|
    xl_cons (xk_callV (Y := xm_y39) ho rfl (by decide) ⟨by decide, by decide⟩ xl_202 hc xd_42_128 rfl (b' := 1) rfl xm_nd39 (T := xm_T9) (N := 25) rfl xl_211 xl_212 xl_213) <|
    xl_cons (xk_aload_n hc xd_42_131 rfl) <|
    xl_cons (xk_getfield (C := xm_C9) (T := xm_T9) (N := 25) hc xd_42_132 ho rfl (by decide) xm_u9 xl_206) <|
    xl_cons (xk_aload_n hc xd_42_135 rfl) <|
    xl_cons (xk_getfield (C := xm_C9) (T := xm_T9) (N := 25) hc xd_42_136 ho rfl (by decide) xm_u9 xl_214) <|
    xl_cons (xk_isub hc xd_42_139) <|
    xl_cons (xk_ireturn hc xd_42_140) (xl_nil)
theorem xo_42 : ∀ e ∈ xm_i42, xr_sd xm_P 42 e := xl_app xo_42_0 (xo_42_1)
set_option maxRecDepth 100000 in
theorem xo_43_0 : ∀ e ∈ ([(0, 1, .aload_n 0, 0, 0, .null, [], none),
  (1, 3, .invokevirtual 88, 36, 1, .retAddr 0, [], none),
  (4, 2, .bipush 45, 0, 0, .int 45, [], none),
  (6, 3, .if_icmp .ne 7, 13, 0, .null, [], none),
  (9, 1, .iconst 1, 0, 0, .int 1, [], none),
  (10, 3, .goto 4, 14, 0, .null, [], none),
  (13, 1, .iconst 0, 0, 0, .int 0, [], none),
  (14, 1, .istore_n 1, 1, 0, .null, [], none),
  (15, 1, .aload_n 0, 0, 0, .null, [], none),
  (16, 3, .getfield 82, 9, 18, .null, [], none),
  (19, 1, .istore_n 2, 2, 0, .null, [], none),
  (20, 1, .iload_n 1, 1, 0, .null, [], none),
  (21, 3, .ifCond .eq 13, 34, 0, .null, [], none),
  (24, 1, .aload_n 0, 0, 0, .null, [], none),
  (25, 1, .dup, 0, 0, .null, [], none),
  (26, 3, .getfield 82, 9, 18, .null, [], none),
  (29, 1, .iconst 1, 0, 0, .int 1, [], none),
  (30, 1, .iadd, 0, 0, .null, [], none),
  (31, 3, .putfield 82, 9, 18, .null, [], none),
  (34, 1, .aload_n 0, 0, 0, .null, [], none),
  (35, 2, .bipush 9, 0, 0, .int 9, [], none),
  (37, 1, .iload_n 2, 2, 0, .null, [], none),
  (38, 3, .invokevirtual 106, 41, 3, .retAddr 0, [], none),
  (41, 1, .istore_n 3, 3, 0, .null, [], none),
  (42, 1, .iload_n 1, 1, 0, .null, [], none),
  (43, 3, .ifCond .eq 8, 51, 0, .null, [], none),
  (46, 1, .iload_n 3, 3, 0, .null, [], none),
  (47, 1, .ineg, 0, 0, .null, [], none),
  (48, 3, .goto 4, 52, 0, .null, [], none),
  (51, 1, .iload_n 3, 3, 0, .null, [], none),
  (52, 1, .ireturn, 0, 0, .null, [], none)] : List xr_E), xr_sd xm_P 43 e := by
  have hc : xp_cd xm_P 43 = prog_12_method_14_code := rfl
  have ho : xp_own xm_P 43 = "ExchangeTextModel" := rfl
  have hm : xp_ml xm_P 43 = 4 := rfl
  exact xl_cons (xk_aload_n hc xd_43_0 rfl) <|
    xl_cons (xk_callV (Y := xm_y36) ho rfl (by decide) ⟨by decide, by decide⟩ xl_202 hc xd_43_1 rfl (b' := 0) rfl xm_nd36 (T := xm_T9) (N := 25) rfl xl_208 xl_209 xl_210) <|
    xl_cons (xk_bipush hc xd_43_4 (by decide)) <|
    xl_cons (xk_if_icmp hc xd_43_6 (by decide)) <|
    xl_cons (xk_iconst hc xd_43_9 (by decide)) <|
    xl_cons (xk_goto hc xd_43_10 (by decide)) <|
    xl_cons (xk_iconst hc xd_43_13 (by decide)) <|
    xl_cons (xk_istore_n hc xd_43_14 hm rfl (by decide)) <|
    xl_cons (xk_aload_n hc xd_43_15 rfl) <|
    xl_cons (xk_getfield (C := xm_C9) (T := xm_T9) (N := 25) hc xd_43_16 ho rfl (by decide) xm_u9 xl_206) <|
    xl_cons (xk_istore_n hc xd_43_19 hm rfl (by decide)) <|
    xl_cons (xk_iload_n hc xd_43_20 rfl) <|
    xl_cons (xk_ifCond hc xd_43_21 (by decide)) <|
    xl_cons (xk_aload_n hc xd_43_24 rfl) <|
    xl_cons (xk_dup hc xd_43_25) <|
    xl_cons (xk_getfield (C := xm_C9) (T := xm_T9) (N := 25) hc xd_43_26 ho rfl (by decide) xm_u9 xl_206) <|
    xl_cons (xk_iconst hc xd_43_29 (by decide)) <|
    xl_cons (xk_iadd hc xd_43_30) <|
    xl_cons (xk_putfield (C := xm_C9) (T := xm_T9) (N := 25) (ty := xm_ty9) hc xd_43_31 ho rfl (by decide) xm_u9 xm_tk9 rfl xm_nm9 xl_206 rfl) <|
    xl_cons (xk_aload_n hc xd_43_34 rfl) <|
    xl_cons (xk_bipush hc xd_43_35 (by decide)) <|
    xl_cons (xk_iload_n hc xd_43_37 rfl) <|
    xl_cons (xk_callV (Y := xm_y41) ho rfl (by decide) ⟨by decide, by decide⟩ xl_202 hc xd_43_38 rfl (b' := 2) rfl xm_nd41 (T := xm_T9) (N := 25) rfl xl_219 xl_220 xl_221) <|
    xl_cons (xk_istore_n hc xd_43_41 hm rfl (by decide)) <|
    xl_cons (xk_iload_n hc xd_43_42 rfl) <|
    xl_cons (xk_ifCond hc xd_43_43 (by decide)) <|
    xl_cons (xk_iload_n hc xd_43_46 rfl) <|
    xl_cons (xk_ineg hc xd_43_47) <|
    xl_cons (xk_goto hc xd_43_48 (by decide)) <|
    xl_cons (xk_iload_n hc xd_43_51 rfl) <|
    xl_cons (xk_ireturn hc xd_43_52) (xl_nil)
theorem xo_43 : ∀ e ∈ xm_i43, xr_sd xm_P 43 e := xo_43_0
set_option maxRecDepth 100000 in
theorem xo_44_0 : ∀ e ∈ ([(0, 1, .aload_n 0, 0, 0, .null, [], none),
  (1, 2, .bipush 35, 0, 0, .int 35, [], none),
  (3, 3, .invokevirtual 110, 40, 2, .retAddr 0, [], none),
  (6, 1, .aload_n 0, 0, 0, .null, [], none),
  (7, 1, .iconst 3, 0, 0, .int 3, [], none),
  (8, 1, .iconst (-1), 0, 0, .int (-1), [], none),
  (9, 3, .invokevirtual 106, 41, 3, .retAddr 0, [], none),
  (12, 1, .istore_n 1, 1, 0, .null, [], none),
  (13, 1, .iload_n 1, 1, 0, .null, [], none),
  (14, 3, .ifCond .ne 11, 25, 0, .null, [], none),
  (17, 1, .aload_n 0, 0, 0, .null, [], none),
  (18, 1, .aload_n 0, 0, 0, .null, [], none),
  (19, 3, .getfield 96, 9, 20, .null, [], none),
  (22, 3, .invokevirtual 92, 39, 2, .retAddr 0, [], none),
  (25, 1, .iload_n 1, 1, 0, .null, [], none),
  (26, 1, .ireturn, 0, 0, .null, [], none)] : List xr_E), xr_sd xm_P 44 e := by
  have hc : xp_cd xm_P 44 = prog_12_method_15_code := rfl
  have ho : xp_own xm_P 44 = "ExchangeTextModel" := rfl
  have hm : xp_ml xm_P 44 = 2 := rfl
  exact xl_cons (xk_aload_n hc xd_44_0 rfl) <|
    xl_cons (xk_bipush hc xd_44_1 (by decide)) <|
    xl_cons (xk_callV (Y := xm_y40) ho rfl (by decide) ⟨by decide, by decide⟩ xl_202 hc xd_44_3 rfl (b' := 1) rfl xm_nd40 (T := xm_T9) (N := 25) rfl xl_222 xl_223 xl_224) <|
    xl_cons (xk_aload_n hc xd_44_6 rfl) <|
    xl_cons (xk_iconst hc xd_44_7 (by decide)) <|
    xl_cons (xk_iconst hc xd_44_8 (by decide)) <|
    xl_cons (xk_callV (Y := xm_y41) ho rfl (by decide) ⟨by decide, by decide⟩ xl_202 hc xd_44_9 rfl (b' := 2) rfl xm_nd41 (T := xm_T9) (N := 25) rfl xl_219 xl_220 xl_221) <|
    xl_cons (xk_istore_n hc xd_44_12 hm rfl (by decide)) <|
    xl_cons (xk_iload_n hc xd_44_13 rfl) <|
    xl_cons (xk_ifCond hc xd_44_14 (by decide)) <|
    xl_cons (xk_aload_n hc xd_44_17 rfl) <|
    xl_cons (xk_aload_n hc xd_44_18 rfl) <|
    xl_cons (xk_getfield (C := xm_C9) (T := xm_T9) (N := 25) hc xd_44_19 ho rfl (by decide) xm_u9 xl_214) <|
    xl_cons (xk_callV (Y := xm_y39) ho rfl (by decide) ⟨by decide, by decide⟩ xl_202 hc xd_44_22 rfl (b' := 1) rfl xm_nd39 (T := xm_T9) (N := 25) rfl xl_211 xl_212 xl_213) <|
    xl_cons (xk_iload_n hc xd_44_25 rfl) <|
    xl_cons (xk_ireturn hc xd_44_26) (xl_nil)
theorem xo_44 : ∀ e ∈ xm_i44, xr_sd xm_P 44 e := xo_44_0
set_option maxRecDepth 100000 in
theorem xo_45_0 : ∀ e ∈ ([(0, 1, .iload_n 0, 0, 0, .null, [], none),
  (1, 2, .bipush 45, 0, 0, .int 45, [], none),
  (3, 3, .if_icmp .eq 10, 13, 0, .null, [], none),
  (6, 1, .iload_n 0, 0, 0, .null, [], none),
  (7, 3, .invokestatic 99, 37, 1, .retAddr 2, [], none),
  (10, 3, .ifCond .eq 7, 17, 0, .null, [], none),
  (13, 1, .iconst 1, 0, 0, .int 1, [], none),
  (14, 3, .goto 4, 18, 0, .null, [], none),
  (17, 1, .iconst 0, 0, 0, .int 0, [], none),
  (18, 1, .ireturn, 0, 0, .null, [], none)] : List xr_E), xr_sd xm_P 45 e := by
  have hc : xp_cd xm_P 45 = prog_12_method_16_code := rfl
  have ho : xp_own xm_P 45 = "ExchangeTextModel" := rfl
  have hm : xp_ml xm_P 45 = 1 := rfl
  exact xl_cons (xk_iload_n hc xd_45_0 rfl) <|
    xl_cons (xk_bipush hc xd_45_1 (by decide)) <|
    xl_cons (xk_if_icmp hc xd_45_3 (by decide)) <|
    xl_cons (xk_iload_n hc xd_45_6 rfl) <|
    xl_cons (xk_callS (Y := xm_y37) ho rfl (by decide) ⟨by decide, by decide⟩ xl_202 hc xd_45_7 rfl xm_nd37 xl_215 xl_216) <|
    xl_cons (xk_ifCond hc xd_45_10 (by decide)) <|
    xl_cons (xk_iconst hc xd_45_13 (by decide)) <|
    xl_cons (xk_goto hc xd_45_14 (by decide)) <|
    xl_cons (xk_iconst hc xd_45_17 (by decide)) <|
    xl_cons (xk_ireturn hc xd_45_18) (xl_nil)
theorem xo_45 : ∀ e ∈ xm_i45, xr_sd xm_P 45 e := xo_45_0
set_option maxRecDepth 100000 in
theorem xo_46_0 : ∀ e ∈ ([(0, 1, .iload_n 0, 0, 0, .null, [], none),
  (1, 79, .tableswitch 91 69 84 #[89, 91, 91, 91, 79, 91, 91, 85, 87, 91, 91, 91, 91, 83, 91, 81], 92, 0, .null, [(69, 90), (70, 92), (71, 92), (72, 92), (73, 80), (74, 92), (75, 92), (76, 86), (77, 88), (78, 92), (79, 92), (80, 92), (81, 92), (82, 84), (83, 92), (84, 82)], none),
  (80, 1, .iconst 0, 0, 0, .int 0, [], none),
  (81, 1, .ireturn, 0, 0, .null, [], none),
  (82, 1, .iconst 1, 0, 0, .int 1, [], none),
  (83, 1, .ireturn, 0, 0, .null, [], none),
  (84, 1, .iconst 2, 0, 0, .int 2, [], none),
  (85, 1, .ireturn, 0, 0, .null, [], none),
  (86, 1, .iconst 3, 0, 0, .int 3, [], none),
  (87, 1, .ireturn, 0, 0, .null, [], none),
  (88, 1, .iconst 4, 0, 0, .int 4, [], none),
  (89, 1, .ireturn, 0, 0, .null, [], none),
  (90, 1, .iconst 5, 0, 0, .int 5, [], none),
  (91, 1, .ireturn, 0, 0, .null, [], none),
  (92, 1, .iconst (-1), 0, 0, .int (-1), [], none),
  (93, 1, .ireturn, 0, 0, .null, [], none)] : List xr_E), xr_sd xm_P 46 e := by
  have hc : xp_cd xm_P 46 = prog_12_method_17_code := rfl
  have ho : xp_own xm_P 46 = "ExchangeTextModel" := rfl
  have hm : xp_ml xm_P 46 = 1 := rfl
  exact xl_cons (xk_iload_n hc xd_46_0 rfl) <|
    xl_cons (xk_tableswitch hc xd_46_1 (by decide) xs_46_1) <|
    xl_cons (xk_iconst hc xd_46_80 (by decide)) <|
    xl_cons (xk_ireturn hc xd_46_81) <|
    xl_cons (xk_iconst hc xd_46_82 (by decide)) <|
    xl_cons (xk_ireturn hc xd_46_83) <|
    xl_cons (xk_iconst hc xd_46_84 (by decide)) <|
    xl_cons (xk_ireturn hc xd_46_85) <|
    xl_cons (xk_iconst hc xd_46_86 (by decide)) <|
    xl_cons (xk_ireturn hc xd_46_87) <|
    xl_cons (xk_iconst hc xd_46_88 (by decide)) <|
    xl_cons (xk_ireturn hc xd_46_89) <|
    xl_cons (xk_iconst hc xd_46_90 (by decide)) <|
    xl_cons (xk_ireturn hc xd_46_91) <|
    xl_cons (xk_iconst hc xd_46_92 (by decide)) <|
    xl_cons (xk_ireturn hc xd_46_93) (xl_nil)
theorem xo_46 : ∀ e ∈ xm_i46, xr_sd xm_P 46 e := xo_46_0
set_option maxRecDepth 100000 in
theorem xo_47_0 : ∀ e ∈ ([(0, 1, .iconst 1, 0, 0, .int 1, [], none),
  (1, 2, .istore 5, 5, 0, .null, [], none),
  (3, 1, .iconst 0, 0, 0, .int 0, [], none),
  (4, 2, .istore 6, 6, 0, .null, [], none),
  (6, 2, .iload 6, 6, 0, .null, [], none),
  (8, 2, .iload 4, 4, 0, .null, [], none),
  (10, 3, .if_icmp .ge 36, 46, 0, .null, [], none),
  (13, 2, .iload 5, 5, 0, .null, [], none),
  (15, 3, .ifCond .eq 22, 37, 0, .null, [], none),
  (18, 1, .aload_n 0, 0, 0, .null, [], none),
  (19, 1, .iload_n 1, 1, 0, .null, [], none),
  (20, 2, .iload 6, 6, 0, .null, [], none),
  (22, 1, .iadd, 0, 0, .null, [], none),
  (23, 1, .iaload, 0, 0, .null, [], none),
  (24, 1, .aload_n 2, 2, 0, .null, [], none),
  (25, 1, .iload_n 3, 3, 0, .null, [], none),
  (26, 2, .iload 6, 6, 0, .null, [], none),
  (28, 1, .iadd, 0, 0, .null, [], none),
  (29, 1, .iaload, 0, 0, .null, [], none),
  (30, 3, .if_icmp .ne 7, 37, 0, .null, [], none),
  (33, 1, .iconst 1, 0, 0, .int 1, [], none),
  (34, 3, .goto 4, 38, 0, .null, [], none),
  (37, 1, .iconst 0, 0, 0, .int 0, [], none),
  (38, 2, .istore 5, 5, 0, .null, [], none),
  (40, 3, .iinc 6 1, 6, 0, .int 1, [], none),
  (43, 3, .goto (-37), 6, 0, .null, [], none),
  (46, 2, .iload 5, 5, 0, .null, [], none),
  (48, 1, .ireturn, 0, 0, .null, [], none)] : List xr_E), xr_sd xm_P 47 e := by
  have hc : xp_cd xm_P 47 = prog_12_method_18_code := rfl
  have ho : xp_own xm_P 47 = "ExchangeTextModel" := rfl
  have hm : xp_ml xm_P 47 = 7 := rfl
  exact xl_cons (xk_iconst hc xd_47_0 (by decide)) <|
    xl_cons (xk_istore hc xd_47_1 hm rfl (by decide)) <|
    xl_cons (xk_iconst hc xd_47_3 (by decide)) <|
    xl_cons (xk_istore hc xd_47_4 hm rfl (by decide)) <|
    xl_cons (xk_iload hc xd_47_6 rfl) <|
    xl_cons (xk_iload hc xd_47_8 rfl) <|
    xl_cons (xk_if_icmp hc xd_47_10 (by decide)) <|
    xl_cons (xk_iload hc xd_47_13 rfl) <|
    xl_cons (xk_ifCond hc xd_47_15 (by decide)) <|
    xl_cons (xk_aload_n hc xd_47_18 rfl) <|
    xl_cons (xk_iload_n hc xd_47_19 rfl) <|
    xl_cons (xk_iload hc xd_47_20 rfl) <|
    xl_cons (xk_iadd hc xd_47_22) <|
    xl_cons (xk_iaload hc xd_47_23) <|
    xl_cons (xk_aload_n hc xd_47_24 rfl) <|
    xl_cons (xk_iload_n hc xd_47_25 rfl) <|
    xl_cons (xk_iload hc xd_47_26 rfl) <|
    xl_cons (xk_iadd hc xd_47_28) <|
    xl_cons (xk_iaload hc xd_47_29) <|
    xl_cons (xk_if_icmp hc xd_47_30 (by decide)) <|
    xl_cons (xk_iconst hc xd_47_33 (by decide)) <|
    xl_cons (xk_goto hc xd_47_34 (by decide)) <|
    xl_cons (xk_iconst hc xd_47_37 (by decide)) <|
    xl_cons (xk_istore hc xd_47_38 hm rfl (by decide)) <|
    xl_cons (xk_iinc hc xd_47_40 hm rfl (by decide) (by decide)) <|
    xl_cons (xk_goto hc xd_47_43 (by decide)) <|
    xl_cons (xk_iload hc xd_47_46 rfl) <|
    xl_cons (xk_ireturn hc xd_47_48) (xl_nil)
theorem xo_47 : ∀ e ∈ xm_i47, xr_sd xm_P 47 e := xo_47_0
set_option maxRecDepth 100000 in
theorem xo_48_0 : ∀ e ∈ ([(0, 2, .bipush 12, 0, 0, .int 12, [], none),
  (2, 1, .aload_n 0, 0, 0, .null, [], none),
  (3, 3, .getfield 16, 9, 4, .null, [], none),
  (6, 1, .iconst 1, 0, 0, .int 1, [], none),
  (7, 1, .iaload, 0, 0, .null, [], none),
  (8, 1, .iadd, 0, 0, .null, [], none),
  (9, 1, .istore_n 1, 1, 0, .null, [], none),
  (10, 1, .aload_n 0, 0, 0, .null, [], none),
  (11, 3, .getfield 16, 9, 4, .null, [], none),
  (14, 1, .iconst 1, 0, 0, .int 1, [], none),
  (15, 1, .iaload, 0, 0, .null, [], none),
  (16, 2, .bipush 12, 0, 0, .int 12, [], none),
  (18, 3, .if_icmp .ne 12, 30, 0, .null, [], none),
  (21, 1, .aload_n 0, 0, 0, .null, [], none),
  (22, 1, .aload_n 0, 0, 0, .null, [], none),
  (23, 3, .getfield 82, 9, 18, .null, [], none),
  (26, 3, .invokevirtual 92, 39, 2, .retAddr 0, [], none),
  (29, 1, .return_, 0, 0, .null, [], none),
  (30, 1, .aload_n 0, 0, 0, .null, [], none),
  (31, 3, .getfield 19, 9, 5, .null, [], none),
  (34, 1, .iload_n 1, 1, 0, .null, [], none),
  (35, 1, .aload_n 0, 0, 0, .null, [], none),
  (36, 1, .aload_n 0, 0, 0, .null, [], none),
  (37, 3, .getfield 22, 9, 6, .null, [], none),
  (40, 2, .bipush 8, 0, 0, .int 8, [], none),
  (42, 1, .iload_n 1, 1, 0, .null, [], none),
  (43, 1, .imul, 0, 0, .null, [], none),
  (44, 3, .invokevirtual 113, 42, 3, .retAddr 0, [], none),
  (47, 1, .iastore, 0, 0, .null, [], none),
  (48, 2, .bipush 12, 0, 0, .int 12, [], none),
  (50, 1, .istore_n 2, 2, 0, .null, [], none),
  (51, 1, .iload_n 2, 2, 0, .null, [], none),
  (52, 1, .iload_n 1, 1, 0, .null, [], none),
  (53, 3, .if_icmp .ge 60, 113, 0, .null, [], none),
  (56, 1, .aload_n 0, 0, 0, .null, [], none),
  (57, 3, .getfield 19, 9, 5, .null, [], none),
  (60, 1, .iload_n 2, 2, 0, .null, [], none),
  (61, 1, .iaload, 0, 0, .null, [], none),
  (62, 1, .aload_n 0, 0, 0, .null, [], none),
  (63, 3, .getfield 19, 9, 5, .null, [], none)] : List xr_E), xr_sd xm_P 48 e := by
  have hc : xp_cd xm_P 48 = prog_12_method_19_code := rfl
  have ho : xp_own xm_P 48 = "ExchangeTextModel" := rfl
  have hm : xp_ml xm_P 48 = 6 := rfl
  exact xl_cons (xk_bipush hc xd_48_0 (by decide)) <|
    xl_cons (xk_aload_n hc xd_48_2 rfl) <|
    xl_cons (xk_getfield (C := xm_C9) (T := xm_T9) (N := 25) hc xd_48_3 ho rfl (by decide) xm_u9 xl_180) <|
    xl_cons (xk_iconst hc xd_48_6 (by decide)) <|
    xl_cons (xk_iaload hc xd_48_7) <|
    xl_cons (xk_iadd hc xd_48_8) <|
    xl_cons (xk_istore_n hc xd_48_9 hm rfl (by decide)) <|
    xl_cons (xk_aload_n hc xd_48_10 rfl) <|
    xl_cons (xk_getfield (C := xm_C9) (T := xm_T9) (N := 25) hc xd_48_11 ho rfl (by decide) xm_u9 xl_180) <|
    xl_cons (xk_iconst hc xd_48_14 (by decide)) <|
    xl_cons (xk_iaload hc xd_48_15) <|
    xl_cons (xk_bipush hc xd_48_16 (by decide)) <|
    xl_cons (xk_if_icmp hc xd_48_18 (by decide)) <|
    xl_cons (xk_aload_n hc xd_48_21 rfl) <|
    xl_cons (xk_aload_n hc xd_48_22 rfl) <|
    xl_cons (xk_getfield (C := xm_C9) (T := xm_T9) (N := 25) hc xd_48_23 ho rfl (by decide) xm_u9 xl_206) <|
    xl_cons (xk_callV (Y := xm_y39) ho rfl (by decide) ⟨by decide, by decide⟩ xl_202 hc xd_48_26 rfl (b' := 1) rfl xm_nd39 (T := xm_T9) (N := 25) rfl xl_211 xl_212 xl_213) <|
    xl_cons (xk_return_ hc xd_48_29) <|
    xl_cons (xk_aload_n hc xd_48_30 rfl) <|
    xl_cons (xk_getfield (C := xm_C9) (T := xm_T9) (N := 25) hc xd_48_31 ho rfl (by decide) xm_u9 xl_181) <|
    xl_cons (xk_iload_n hc xd_48_34 rfl) <|
    xl_cons (xk_aload_n hc xd_48_35 rfl) <|
    xl_cons (xk_aload_n hc xd_48_36 rfl) <|
    xl_cons (xk_getfield (C := xm_C9) (T := xm_T9) (N := 25) hc xd_48_37 ho rfl (by decide) xm_u9 xl_182) <|
    xl_cons (xk_bipush hc xd_48_40 (by decide)) <|
    xl_cons (xk_iload_n hc xd_48_42 rfl) <|
    xl_cons (xk_imul hc xd_48_43) <|
    xl_cons (xk_callV (Y := xm_y42) ho rfl (by decide) ⟨by decide, by decide⟩ xl_202 hc xd_48_44 rfl (b' := 2) rfl xm_nd42 (T := xm_T9) (N := 25) rfl xl_225 xl_226 xl_227) <|
    xl_cons (xk_iastore hc xd_48_47) <|
    xl_cons (xk_bipush hc xd_48_48 (by decide)) <|
    xl_cons (xk_istore_n hc xd_48_50 hm rfl (by decide)) <|
    xl_cons (xk_iload_n hc xd_48_51 rfl) <|
    xl_cons (xk_iload_n hc xd_48_52 rfl) <|
    xl_cons (xk_if_icmp hc xd_48_53 (by decide)) <|
    xl_cons (xk_aload_n hc xd_48_56 rfl) <|
    xl_cons (xk_getfield (C := xm_C9) (T := xm_T9) (N := 25) hc xd_48_57 ho rfl (by decide) xm_u9 xl_181) <|
    xl_cons (xk_iload_n hc xd_48_60 rfl) <|
    xl_cons (xk_iaload hc xd_48_61) <|
    xl_cons (xk_aload_n hc xd_48_62 rfl) <|
    xl_cons (xk_getfield (C := xm_C9) (T := xm_T9) (N := 25) hc xd_48_63 ho rfl (by decide) xm_u9 xl_181) (xl_nil)
set_option maxRecDepth 100000 in
theorem xo_48_1 : ∀ e ∈ ([(66, 1, .iload_n 1, 1, 0, .null, [], none),
  (67, 1, .iaload, 0, 0, .null, [], none),
  (68, 3, .if_icmp .ne 39, 107, 0, .null, [], none),
  (71, 1, .aload_n 0, 0, 0, .null, [], none),
  (72, 3, .getfield 22, 9, 6, .null, [], none),
  (75, 2, .bipush 8, 0, 0, .int 8, [], none),
  (77, 1, .iload_n 2, 2, 0, .null, [], none),
  (78, 1, .imul, 0, 0, .null, [], none),
  (79, 1, .aload_n 0, 0, 0, .null, [], none),
  (80, 3, .getfield 22, 9, 6, .null, [], none),
  (83, 2, .bipush 8, 0, 0, .int 8, [], none),
  (85, 1, .iload_n 1, 1, 0, .null, [], none),
  (86, 1, .imul, 0, 0, .null, [], none),
  (87, 1, .aload_n 0, 0, 0, .null, [], none),
  (88, 3, .getfield 19, 9, 5, .null, [], none),
  (91, 1, .iload_n 1, 1, 0, .null, [], none),
  (92, 1, .iaload, 0, 0, .null, [], none),
  (93, 3, .invokestatic 117, 47, 5, .retAddr 2, [], none),
  (96, 3, .ifCond .eq 11, 107, 0, .null, [], none),
  (99, 1, .aload_n 0, 0, 0, .null, [], none),
  (100, 1, .aload_n 0, 0, 0, .null, [], none),
  (101, 3, .getfield 96, 9, 20, .null, [], none),
  (104, 3, .invokevirtual 92, 39, 2, .retAddr 0, [], none),
  (107, 3, .iinc 2 1, 2, 0, .int 1, [], none),
  (110, 3, .goto (-59), 51, 0, .null, [], none),
  (113, 1, .aload_n 0, 0, 0, .null, [], none),
  (114, 2, .bipush 61, 0, 0, .int 61, [], none),
  (116, 3, .invokevirtual 110, 40, 2, .retAddr 0, [], none),
  (119, 1, .iconst 0, 0, 0, .int 0, [], none),
  (120, 1, .istore_n 2, 2, 0, .null, [], none),
  (121, 1, .iconst 1, 0, 0, .int 1, [], none),
  (122, 1, .istore_n 3, 3, 0, .null, [], none),
  (123, 1, .iconst 1, 0, 0, .int 1, [], none),
  (124, 2, .istore 4, 4, 0, .null, [], none),
  (126, 1, .iload_n 3, 3, 0, .null, [], none),
  (127, 3, .ifCond .eq 138, 265, 0, .null, [], none),
  (130, 1, .aload_n 0, 0, 0, .null, [], none),
  (131, 3, .getfield 85, 9, 19, .null, [], none),
  (134, 1, .iconst (-1), 0, 0, .int (-1), [], none),
  (135, 3, .if_icmp .ne 130, 265, 0, .null, [], none)] : List xr_E), xr_sd xm_P 48 e := by
  have hc : xp_cd xm_P 48 = prog_12_method_19_code := rfl
  have ho : xp_own xm_P 48 = "ExchangeTextModel" := rfl
  have hm : xp_ml xm_P 48 = 6 := rfl
  exact xl_cons (xk_iload_n hc xd_48_66 rfl) <|
    xl_cons (xk_iaload hc xd_48_67) <|
    xl_cons (xk_if_icmp hc xd_48_68 (by decide)) <|
    xl_cons (xk_aload_n hc xd_48_71 rfl) <|
    xl_cons (xk_getfield (C := xm_C9) (T := xm_T9) (N := 25) hc xd_48_72 ho rfl (by decide) xm_u9 xl_182) <|
    xl_cons (xk_bipush hc xd_48_75 (by decide)) <|
    xl_cons (xk_iload_n hc xd_48_77 rfl) <|
    xl_cons (xk_imul hc xd_48_78) <|
    xl_cons (xk_aload_n hc xd_48_79 rfl) <|
    xl_cons (xk_getfield (C := xm_C9) (T := xm_T9) (N := 25) hc xd_48_80 ho rfl (by decide) xm_u9 xl_182) <|
    xl_cons (xk_bipush hc xd_48_83 (by decide)) <|
    xl_cons (xk_iload_n hc xd_48_85 rfl) <|
    xl_cons (xk_imul hc xd_48_86) <|
    xl_cons (xk_aload_n hc xd_48_87 rfl) <|
    xl_cons (xk_getfield (C := xm_C9) (T := xm_T9) (N := 25) hc xd_48_88 ho rfl (by decide) xm_u9 xl_181) <|
    xl_cons (xk_iload_n hc xd_48_91 rfl) <|
    xl_cons (xk_iaload hc xd_48_92) <|
    xl_cons (xk_callS (Y := xm_y47) ho rfl (by decide) ⟨by decide, by decide⟩ xl_202 hc xd_48_93 rfl xm_nd47 xl_228 xl_229) <|
    xl_cons (xk_ifCond hc xd_48_96 (by decide)) <|
    xl_cons (xk_aload_n hc xd_48_99 rfl) <|
    xl_cons (xk_aload_n hc xd_48_100 rfl) <|
    xl_cons (xk_getfield (C := xm_C9) (T := xm_T9) (N := 25) hc xd_48_101 ho rfl (by decide) xm_u9 xl_214) <|
    xl_cons (xk_callV (Y := xm_y39) ho rfl (by decide) ⟨by decide, by decide⟩ xl_202 hc xd_48_104 rfl (b' := 1) rfl xm_nd39 (T := xm_T9) (N := 25) rfl xl_211 xl_212 xl_213) <|
    xl_cons (xk_iinc hc xd_48_107 hm rfl (by decide) (by decide)) <|
    xl_cons (xk_goto hc xd_48_110 (by decide)) <|
    xl_cons (xk_aload_n hc xd_48_113 rfl) <|
    xl_cons (xk_bipush hc xd_48_114 (by decide)) <|
    xl_cons (xk_callV (Y := xm_y40) ho rfl (by decide) ⟨by decide, by decide⟩ xl_202 hc xd_48_116 rfl (b' := 1) rfl xm_nd40 (T := xm_T9) (N := 25) rfl xl_222 xl_223 xl_224) <|
    xl_cons (xk_iconst hc xd_48_119 (by decide)) <|
    xl_cons (xk_istore_n hc xd_48_120 hm rfl (by decide)) <|
    xl_cons (xk_iconst hc xd_48_121 (by decide)) <|
    xl_cons (xk_istore_n hc xd_48_122 hm rfl (by decide)) <|
    xl_cons (xk_iconst hc xd_48_123 (by decide)) <|
    xl_cons (xk_istore hc xd_48_124 hm rfl (by decide)) <|
    xl_cons (xk_iload_n hc xd_48_126 rfl) <|
    xl_cons (xk_ifCond hc xd_48_127 (by decide)) <|
    xl_cons (xk_aload_n hc xd_48_130 rfl) <|
    xl_cons (xk_getfield (C := xm_C9) (T := xm_T9) (N := 25) hc xd_48_131 ho rfl (by decide) xm_u9 xl_207) <|
    xl_cons (xk_iconst hc xd_48_134 (by decide)) <|
    xl_cons (xk_if_icmp hc xd_48_135 (by decide)) (xl_nil)
set_option maxRecDepth 100000 in
theorem xo_48_2 : ∀ e ∈ ([(138, 1, .aload_n 0, 0, 0, .null, [], none),
  (139, 3, .invokevirtual 88, 36, 1, .retAddr 0, [], none),
  (142, 2, .istore 5, 5, 0, .null, [], none),
  (144, 1, .iload_n 2, 2, 0, .null, [], none),
  (145, 3, .ifCond .le 15, 160, 0, .null, [], none),
  (148, 2, .iload 5, 5, 0, .null, [], none),
  (150, 2, .bipush 59, 0, 0, .int 59, [], none),
  (152, 3, .if_icmp .ne 8, 160, 0, .null, [], none),
  (155, 1, .iconst 0, 0, 0, .int 0, [], none),
  (156, 1, .istore_n 3, 3, 0, .null, [], none),
  (157, 3, .goto 95, 252, 0, .null, [], none),
  (160, 2, .iload 4, 4, 0, .null, [], none),
  (162, 3, .ifCond .ne 30, 192, 0, .null, [], none),
  (165, 2, .iload 5, 5, 0, .null, [], none),
  (167, 2, .bipush 63, 0, 0, .int 63, [], none),
  (169, 3, .if_icmp .ne 23, 192, 0, .null, [], none),
  (172, 1, .aload_n 0, 0, 0, .null, [], none),
  (173, 3, .getfield 31, 9, 9, .null, [], none),
  (176, 2, .bipush 8, 0, 0, .int 8, [], none),
  (178, 1, .iload_n 1, 1, 0, .null, [], none),
  (179, 1, .imul, 0, 0, .null, [], none),
  (180, 1, .iload_n 2, 2, 0, .null, [], none),
  (181, 1, .iadd, 0, 0, .null, [], none),
  (182, 1, .iconst 1, 0, 0, .int 1, [], none),
  (183, 1, .isub, 0, 0, .null, [], none),
  (184, 1, .iconst 1, 0, 0, .int 1, [], none),
  (185, 1, .bastore, 0, 0, .null, [], none),
  (186, 1, .iconst 1, 0, 0, .int 1, [], none),
  (187, 2, .istore 4, 4, 0, .null, [], none),
  (189, 3, .goto 63, 252, 0, .null, [], none),
  (192, 1, .iload_n 2, 2, 0, .null, [], none),
  (193, 2, .bipush 8, 0, 0, .int 8, [], none),
  (195, 3, .if_icmp .eq 12, 207, 0, .null, [], none),
  (198, 2, .iload 5, 5, 0, .null, [], none),
  (200, 3, .invokestatic 121, 46, 1, .retAddr 2, [], none),
  (203, 1, .iconst (-1), 0, 0, .int (-1), [], none),
  (204, 3, .if_icmp .ne 14, 218, 0, .null, [], none),
  (207, 1, .aload_n 0, 0, 0, .null, [], none),
  (208, 1, .aload_n 0, 0, 0, .null, [], none),
  (209, 3, .getfield 82, 9, 18, .null, [], none)] : List xr_E), xr_sd xm_P 48 e := by
  have hc : xp_cd xm_P 48 = prog_12_method_19_code := rfl
  have ho : xp_own xm_P 48 = "ExchangeTextModel" := rfl
  have hm : xp_ml xm_P 48 = 6 := rfl
  exact xl_cons (xk_aload_n hc xd_48_138 rfl) <|
    xl_cons (xk_callV (Y := xm_y36) ho rfl (by decide) ⟨by decide, by decide⟩ xl_202 hc xd_48_139 rfl (b' := 0) rfl xm_nd36 (T := xm_T9) (N := 25) rfl xl_208 xl_209 xl_210) <|
    xl_cons (xk_istore hc xd_48_142 hm rfl (by decide)) <|
    xl_cons (xk_iload_n hc xd_48_144 rfl) <|
    xl_cons (xk_ifCond hc xd_48_145 (by decide)) <|
    xl_cons (xk_iload hc xd_48_148 rfl) <|
    xl_cons (xk_bipush hc xd_48_150 (by decide)) <|
    xl_cons (xk_if_icmp hc xd_48_152 (by decide)) <|
    xl_cons (xk_iconst hc xd_48_155 (by decide)) <|
    xl_cons (xk_istore_n hc xd_48_156 hm rfl (by decide)) <|
    xl_cons (xk_goto hc xd_48_157 (by decide)) <|
    xl_cons (xk_iload hc xd_48_160 rfl) <|
    xl_cons (xk_ifCond hc xd_48_162 (by decide)) <|
    xl_cons (xk_iload hc xd_48_165 rfl) <|
    xl_cons (xk_bipush hc xd_48_167 (by decide)) <|
    xl_cons (xk_if_icmp hc xd_48_169 (by decide)) <|
    xl_cons (xk_aload_n hc xd_48_172 rfl) <|
    xl_cons (xk_getfield (C := xm_C9) (T := xm_T9) (N := 25) hc xd_48_173 ho rfl (by decide) xm_u9 xl_186) <|
    xl_cons (xk_bipush hc xd_48_176 (by decide)) <|
    xl_cons (xk_iload_n hc xd_48_178 rfl) <|
    xl_cons (xk_imul hc xd_48_179) <|
    xl_cons (xk_iload_n hc xd_48_180 rfl) <|
    xl_cons (xk_iadd hc xd_48_181) <|
    xl_cons (xk_iconst hc xd_48_182 (by decide)) <|
    xl_cons (xk_isub hc xd_48_183) <|
    xl_cons (xk_iconst hc xd_48_184 (by decide)) <|
    xl_cons (xk_bastore hc xd_48_185) <|
    xl_cons (xk_iconst hc xd_48_186 (by decide)) <|
    xl_cons (xk_istore hc xd_48_187 hm rfl (by decide)) <|
    xl_cons (xk_goto hc xd_48_189 (by decide)) <|
    xl_cons (xk_iload_n hc xd_48_192 rfl) <|
    xl_cons (xk_bipush hc xd_48_193 (by decide)) <|
    xl_cons (xk_if_icmp hc xd_48_195 (by decide)) <|
    xl_cons (xk_iload hc xd_48_198 rfl) <|
    xl_cons (xk_callS (Y := xm_y46) ho rfl (by decide) ⟨by decide, by decide⟩ xl_202 hc xd_48_200 rfl xm_nd46 xl_230 xl_231) <|
    xl_cons (xk_iconst hc xd_48_203 (by decide)) <|
    xl_cons (xk_if_icmp hc xd_48_204 (by decide)) <|
    xl_cons (xk_aload_n hc xd_48_207 rfl) <|
    xl_cons (xk_aload_n hc xd_48_208 rfl) <|
    xl_cons (xk_getfield (C := xm_C9) (T := xm_T9) (N := 25) hc xd_48_209 ho rfl (by decide) xm_u9 xl_206) (xl_nil)
set_option maxRecDepth 100000 in
theorem xo_48_3 : ∀ e ∈ ([(212, 3, .invokevirtual 92, 39, 2, .retAddr 0, [], none),
  (215, 3, .goto 37, 252, 0, .null, [], none),
  (218, 1, .aload_n 0, 0, 0, .null, [], none),
  (219, 3, .getfield 28, 9, 8, .null, [], none),
  (222, 2, .bipush 8, 0, 0, .int 8, [], none),
  (224, 1, .iload_n 1, 1, 0, .null, [], none),
  (225, 1, .imul, 0, 0, .null, [], none),
  (226, 1, .iload_n 2, 2, 0, .null, [], none),
  (227, 1, .iadd, 0, 0, .null, [], none),
  (228, 2, .iload 5, 5, 0, .null, [], none),
  (230, 3, .invokestatic 121, 46, 1, .retAddr 2, [], none),
  (233, 1, .iastore, 0, 0, .null, [], none),
  (234, 1, .aload_n 0, 0, 0, .null, [], none),
  (235, 3, .getfield 31, 9, 9, .null, [], none),
  (238, 2, .bipush 8, 0, 0, .int 8, [], none),
  (240, 1, .iload_n 1, 1, 0, .null, [], none),
  (241, 1, .imul, 0, 0, .null, [], none),
  (242, 1, .iload_n 2, 2, 0, .null, [], none),
  (243, 1, .iadd, 0, 0, .null, [], none),
  (244, 1, .iconst 0, 0, 0, .int 0, [], none),
  (245, 1, .bastore, 0, 0, .null, [], none),
  (246, 1, .iconst 0, 0, 0, .int 0, [], none),
  (247, 2, .istore 4, 4, 0, .null, [], none),
  (249, 3, .iinc 2 1, 2, 0, .int 1, [], none),
  (252, 1, .aload_n 0, 0, 0, .null, [], none),
  (253, 1, .dup, 0, 0, .null, [], none),
  (254, 3, .getfield 82, 9, 18, .null, [], none),
  (257, 1, .iconst 1, 0, 0, .int 1, [], none),
  (258, 1, .iadd, 0, 0, .null, [], none),
  (259, 3, .putfield 82, 9, 18, .null, [], none),
  (262, 3, .goto (-136), 126, 0, .null, [], none),
  (265, 1, .aload_n 0, 0, 0, .null, [], none),
  (266, 3, .getfield 25, 9, 7, .null, [], none),
  (269, 1, .iload_n 1, 1, 0, .null, [], none),
  (270, 1, .iload_n 2, 2, 0, .null, [], none),
  (271, 1, .iastore, 0, 0, .null, [], none),
  (272, 1, .aload_n 0, 0, 0, .null, [], none),
  (273, 3, .getfield 16, 9, 4, .null, [], none),
  (276, 1, .iconst 1, 0, 0, .int 1, [], none),
  (277, 1, .dup2, 0, 0, .null, [], none)] : List xr_E), xr_sd xm_P 48 e := by
  have hc : xp_cd xm_P 48 = prog_12_method_19_code := rfl
  have ho : xp_own xm_P 48 = "ExchangeTextModel" := rfl
  have hm : xp_ml xm_P 48 = 6 := rfl
  exact xl_cons (xk_callV (Y := xm_y39) ho rfl (by decide) ⟨by decide, by decide⟩ xl_202 hc xd_48_212 rfl (b' := 1) rfl xm_nd39 (T := xm_T9) (N := 25) rfl xl_211 xl_212 xl_213) <|
    xl_cons (xk_goto hc xd_48_215 (by decide)) <|
    xl_cons (xk_aload_n hc xd_48_218 rfl) <|
    xl_cons (xk_getfield (C := xm_C9) (T := xm_T9) (N := 25) hc xd_48_219 ho rfl (by decide) xm_u9 xl_184) <|
    xl_cons (xk_bipush hc xd_48_222 (by decide)) <|
    xl_cons (xk_iload_n hc xd_48_224 rfl) <|
    xl_cons (xk_imul hc xd_48_225) <|
    xl_cons (xk_iload_n hc xd_48_226 rfl) <|
    xl_cons (xk_iadd hc xd_48_227) <|
    xl_cons (xk_iload hc xd_48_228 rfl) <|
    xl_cons (xk_callS (Y := xm_y46) ho rfl (by decide) ⟨by decide, by decide⟩ xl_202 hc xd_48_230 rfl xm_nd46 xl_230 xl_231) <|
    xl_cons (xk_iastore hc xd_48_233) <|
    xl_cons (xk_aload_n hc xd_48_234 rfl) <|
    xl_cons (xk_getfield (C := xm_C9) (T := xm_T9) (N := 25) hc xd_48_235 ho rfl (by decide) xm_u9 xl_186) <|
    xl_cons (xk_bipush hc xd_48_238 (by decide)) <|
    xl_cons (xk_iload_n hc xd_48_240 rfl) <|
    xl_cons (xk_imul hc xd_48_241) <|
    xl_cons (xk_iload_n hc xd_48_242 rfl) <|
    xl_cons (xk_iadd hc xd_48_243) <|
    xl_cons (xk_iconst hc xd_48_244 (by decide)) <|
    xl_cons (xk_bastore hc xd_48_245) <|
    xl_cons (xk_iconst hc xd_48_246 (by decide)) <|
    xl_cons (xk_istore hc xd_48_247 hm rfl (by decide)) <|
    xl_cons (xk_iinc hc xd_48_249 hm rfl (by decide) (by decide)) <|
    xl_cons (xk_aload_n hc xd_48_252 rfl) <|
    xl_cons (xk_dup hc xd_48_253) <|
    xl_cons (xk_getfield (C := xm_C9) (T := xm_T9) (N := 25) hc xd_48_254 ho rfl (by decide) xm_u9 xl_206) <|
    xl_cons (xk_iconst hc xd_48_257 (by decide)) <|
    xl_cons (xk_iadd hc xd_48_258) <|
    xl_cons (xk_putfield (C := xm_C9) (T := xm_T9) (N := 25) (ty := xm_ty9) hc xd_48_259 ho rfl (by decide) xm_u9 xm_tk9 rfl xm_nm9 xl_206 rfl) <|
    xl_cons (xk_goto hc xd_48_262 (by decide)) <|
    xl_cons (xk_aload_n hc xd_48_265 rfl) <|
    xl_cons (xk_getfield (C := xm_C9) (T := xm_T9) (N := 25) hc xd_48_266 ho rfl (by decide) xm_u9 xl_183) <|
    xl_cons (xk_iload_n hc xd_48_269 rfl) <|
    xl_cons (xk_iload_n hc xd_48_270 rfl) <|
    xl_cons (xk_iastore hc xd_48_271) <|
    xl_cons (xk_aload_n hc xd_48_272 rfl) <|
    xl_cons (xk_getfield (C := xm_C9) (T := xm_T9) (N := 25) hc xd_48_273 ho rfl (by decide) xm_u9 xl_180) <|
    xl_cons (xk_iconst hc xd_48_276 (by decide)) <|
    xl_cons (xk_dup2 hc xd_48_277) (xl_nil)
set_option maxRecDepth 100000 in
theorem xo_48_4 : ∀ e ∈ ([(278, 1, .iaload, 0, 0, .null, [], none),
  (279, 1, .iconst 1, 0, 0, .int 1, [], none),
  (280, 1, .iadd, 0, 0, .null, [], none),
  (281, 1, .iastore, 0, 0, .null, [], none),
  (282, 1, .return_, 0, 0, .null, [], none)] : List xr_E), xr_sd xm_P 48 e := by
  have hc : xp_cd xm_P 48 = prog_12_method_19_code := rfl
  have ho : xp_own xm_P 48 = "ExchangeTextModel" := rfl
  have hm : xp_ml xm_P 48 = 6 := rfl
  exact xl_cons (xk_iaload hc xd_48_278) <|
    xl_cons (xk_iconst hc xd_48_279 (by decide)) <|
    xl_cons (xk_iadd hc xd_48_280) <|
    xl_cons (xk_iastore hc xd_48_281) <|
    xl_cons (xk_return_ hc xd_48_282) (xl_nil)
theorem xo_48 : ∀ e ∈ xm_i48, xr_sd xm_P 48 e := xl_app xo_48_0 (xl_app xo_48_1 (xl_app xo_48_2 (xl_app xo_48_3 (xo_48_4))))
set_option maxRecDepth 100000 in
theorem xo_49_0 : ∀ e ∈ ([(0, 1, .aload_n 0, 0, 0, .null, [], none),
  (1, 1, .iconst 0, 0, 0, .int 0, [], none),
  (2, 3, .putfield 69, 9, 0, .null, [], none),
  (5, 1, .aload_n 0, 0, 0, .null, [], none),
  (6, 1, .iconst 0, 0, 0, .int 0, [], none),
  (7, 3, .putfield 82, 9, 18, .null, [], none),
  (10, 1, .aload_n 0, 0, 0, .null, [], none),
  (11, 1, .iconst (-1), 0, 0, .int (-1), [], none),
  (12, 3, .putfield 85, 9, 19, .null, [], none),
  (15, 1, .aload_n 0, 0, 0, .null, [], none),
  (16, 3, .getfield 16, 9, 4, .null, [], none),
  (19, 1, .iconst 1, 0, 0, .int 1, [], none),
  (20, 1, .iconst 0, 0, 0, .int 0, [], none),
  (21, 1, .iastore, 0, 0, .null, [], none),
  (22, 1, .aload_n 0, 0, 0, .null, [], none),
  (23, 3, .getfield 85, 9, 19, .null, [], none),
  (26, 1, .iconst (-1), 0, 0, .int (-1), [], none),
  (27, 3, .if_icmp .ne 17, 44, 0, .null, [], none),
  (30, 1, .aload_n 0, 0, 0, .null, [], none),
  (31, 3, .invokevirtual 88, 36, 1, .retAddr 0, [], none),
  (34, 3, .ifCond .eq 10, 44, 0, .null, [], none),
  (37, 1, .aload_n 0, 0, 0, .null, [], none),
  (38, 3, .invokevirtual 125, 48, 1, .retAddr 0, [], none),
  (41, 3, .goto (-19), 22, 0, .null, [], none),
  (44, 1, .aload_n 0, 0, 0, .null, [], none),
  (45, 3, .getfield 85, 9, 19, .null, [], none),
  (48, 1, .iconst (-1), 0, 0, .int (-1), [], none),
  (49, 3, .if_icmp .eq 10, 59, 0, .null, [], none),
  (52, 1, .iconst (-1), 0, 0, .int (-1), [], none),
  (53, 1, .aload_n 0, 0, 0, .null, [], none),
  (54, 3, .getfield 85, 9, 19, .null, [], none),
  (57, 1, .isub, 0, 0, .null, [], none),
  (58, 1, .ireturn, 0, 0, .null, [], none),
  (59, 1, .aload_n 0, 0, 0, .null, [], none),
  (60, 3, .getfield 16, 9, 4, .null, [], none),
  (63, 1, .iconst 0, 0, 0, .int 0, [], none),
  (64, 1, .aload_n 0, 0, 0, .null, [], none),
  (65, 3, .getfield 16, 9, 4, .null, [], none),
  (68, 1, .iconst 1, 0, 0, .int 1, [], none),
  (69, 1, .iaload, 0, 0, .null, [], none)] : List xr_E), xr_sd xm_P 49 e := by
  have hc : xp_cd xm_P 49 = prog_12_method_20_code := rfl
  have ho : xp_own xm_P 49 = "ExchangeTextModel" := rfl
  have hm : xp_ml xm_P 49 = 3 := rfl
  exact xl_cons (xk_aload_n hc xd_49_0 rfl) <|
    xl_cons (xk_iconst hc xd_49_1 (by decide)) <|
    xl_cons (xk_putfield (C := xm_C9) (T := xm_T9) (N := 25) (ty := xm_ty9) hc xd_49_2 ho rfl (by decide) xm_u9 xm_tk9 rfl xm_nm9 xl_199 rfl) <|
    xl_cons (xk_aload_n hc xd_49_5 rfl) <|
    xl_cons (xk_iconst hc xd_49_6 (by decide)) <|
    xl_cons (xk_putfield (C := xm_C9) (T := xm_T9) (N := 25) (ty := xm_ty9) hc xd_49_7 ho rfl (by decide) xm_u9 xm_tk9 rfl xm_nm9 xl_206 rfl) <|
    xl_cons (xk_aload_n hc xd_49_10 rfl) <|
    xl_cons (xk_iconst hc xd_49_11 (by decide)) <|
    xl_cons (xk_putfield (C := xm_C9) (T := xm_T9) (N := 25) (ty := xm_ty9) hc xd_49_12 ho rfl (by decide) xm_u9 xm_tk9 rfl xm_nm9 xl_207 rfl) <|
    xl_cons (xk_aload_n hc xd_49_15 rfl) <|
    xl_cons (xk_getfield (C := xm_C9) (T := xm_T9) (N := 25) hc xd_49_16 ho rfl (by decide) xm_u9 xl_180) <|
    xl_cons (xk_iconst hc xd_49_19 (by decide)) <|
    xl_cons (xk_iconst hc xd_49_20 (by decide)) <|
    xl_cons (xk_iastore hc xd_49_21) <|
    xl_cons (xk_aload_n hc xd_49_22 rfl) <|
    xl_cons (xk_getfield (C := xm_C9) (T := xm_T9) (N := 25) hc xd_49_23 ho rfl (by decide) xm_u9 xl_207) <|
    xl_cons (xk_iconst hc xd_49_26 (by decide)) <|
    xl_cons (xk_if_icmp hc xd_49_27 (by decide)) <|
    xl_cons (xk_aload_n hc xd_49_30 rfl) <|
    xl_cons (xk_callV (Y := xm_y36) ho rfl (by decide) ⟨by decide, by decide⟩ xl_202 hc xd_49_31 rfl (b' := 0) rfl xm_nd36 (T := xm_T9) (N := 25) rfl xl_208 xl_209 xl_210) <|
    xl_cons (xk_ifCond hc xd_49_34 (by decide)) <|
    xl_cons (xk_aload_n hc xd_49_37 rfl) <|
    xl_cons (xk_callV (Y := xm_y48) ho rfl (by decide) ⟨by decide, by decide⟩ xl_202 hc xd_49_38 rfl (b' := 0) rfl xm_nd48 (T := xm_T9) (N := 25) rfl xl_232 xl_233 xl_234) <|
    xl_cons (xk_goto hc xd_49_41 (by decide)) <|
    xl_cons (xk_aload_n hc xd_49_44 rfl) <|
    xl_cons (xk_getfield (C := xm_C9) (T := xm_T9) (N := 25) hc xd_49_45 ho rfl (by decide) xm_u9 xl_207) <|
    xl_cons (xk_iconst hc xd_49_48 (by decide)) <|
    xl_cons (xk_if_icmp hc xd_49_49 (by decide)) <|
    xl_cons (xk_iconst hc xd_49_52 (by decide)) <|
    xl_cons (xk_aload_n hc xd_49_53 rfl) <|
    xl_cons (xk_getfield (C := xm_C9) (T := xm_T9) (N := 25) hc xd_49_54 ho rfl (by decide) xm_u9 xl_207) <|
    xl_cons (xk_isub hc xd_49_57) <|
    xl_cons (xk_ireturn hc xd_49_58) <|
    xl_cons (xk_aload_n hc xd_49_59 rfl) <|
    xl_cons (xk_getfield (C := xm_C9) (T := xm_T9) (N := 25) hc xd_49_60 ho rfl (by decide) xm_u9 xl_180) <|
    xl_cons (xk_iconst hc xd_49_63 (by decide)) <|
    xl_cons (xk_aload_n hc xd_49_64 rfl) <|
    xl_cons (xk_getfield (C := xm_C9) (T := xm_T9) (N := 25) hc xd_49_65 ho rfl (by decide) xm_u9 xl_180) <|
    xl_cons (xk_iconst hc xd_49_68 (by decide)) <|
    xl_cons (xk_iaload hc xd_49_69) (xl_nil)
set_option maxRecDepth 100000 in
theorem xo_49_1 : ∀ e ∈ ([(70, 1, .iastore, 0, 0, .null, [], none),
  (71, 1, .iconst 0, 0, 0, .int 0, [], none),
  (72, 1, .istore_n 1, 1, 0, .null, [], none),
  (73, 1, .iload_n 1, 1, 0, .null, [], none),
  (74, 2, .bipush 12, 0, 0, .int 12, [], none),
  (76, 3, .if_icmp .ge 128, 204, 0, .null, [], none),
  (79, 1, .aload_n 0, 0, 0, .null, [], none),
  (80, 3, .getfield 19, 9, 5, .null, [], none),
  (83, 1, .iload_n 1, 1, 0, .null, [], none),
  (84, 1, .aload_n 0, 0, 0, .null, [], none),
  (85, 3, .getfield 19, 9, 5, .null, [], none),
  (88, 2, .bipush 12, 0, 0, .int 12, [], none),
  (90, 1, .iload_n 1, 1, 0, .null, [], none),
  (91, 1, .iadd, 0, 0, .null, [], none),
  (92, 1, .iaload, 0, 0, .null, [], none),
  (93, 1, .iastore, 0, 0, .null, [], none),
  (94, 1, .aload_n 0, 0, 0, .null, [], none),
  (95, 3, .getfield 25, 9, 7, .null, [], none),
  (98, 1, .iload_n 1, 1, 0, .null, [], none),
  (99, 1, .aload_n 0, 0, 0, .null, [], none),
  (100, 3, .getfield 25, 9, 7, .null, [], none),
  (103, 2, .bipush 12, 0, 0, .int 12, [], none),
  (105, 1, .iload_n 1, 1, 0, .null, [], none),
  (106, 1, .iadd, 0, 0, .null, [], none),
  (107, 1, .iaload, 0, 0, .null, [], none),
  (108, 1, .iastore, 0, 0, .null, [], none),
  (109, 1, .iconst 0, 0, 0, .int 0, [], none),
  (110, 1, .istore_n 2, 2, 0, .null, [], none),
  (111, 1, .iload_n 2, 2, 0, .null, [], none),
  (112, 2, .bipush 8, 0, 0, .int 8, [], none),
  (114, 3, .if_icmp .ge 84, 198, 0, .null, [], none),
  (117, 1, .aload_n 0, 0, 0, .null, [], none),
  (118, 3, .getfield 22, 9, 6, .null, [], none),
  (121, 2, .bipush 8, 0, 0, .int 8, [], none),
  (123, 1, .iload_n 1, 1, 0, .null, [], none),
  (124, 1, .imul, 0, 0, .null, [], none),
  (125, 1, .iload_n 2, 2, 0, .null, [], none),
  (126, 1, .iadd, 0, 0, .null, [], none),
  (127, 1, .aload_n 0, 0, 0, .null, [], none),
  (128, 3, .getfield 22, 9, 6, .null, [], none)] : List xr_E), xr_sd xm_P 49 e := by
  have hc : xp_cd xm_P 49 = prog_12_method_20_code := rfl
  have ho : xp_own xm_P 49 = "ExchangeTextModel" := rfl
  have hm : xp_ml xm_P 49 = 3 := rfl
  exact xl_cons (xk_iastore hc xd_49_70) <|
    xl_cons (xk_iconst hc xd_49_71 (by decide)) <|
    xl_cons (xk_istore_n hc xd_49_72 hm rfl (by decide)) <|
    xl_cons (xk_iload_n hc xd_49_73 rfl) <|
    xl_cons (xk_bipush hc xd_49_74 (by decide)) <|
    xl_cons (xk_if_icmp hc xd_49_76 (by decide)) <|
    xl_cons (xk_aload_n hc xd_49_79 rfl) <|
    xl_cons (xk_getfield (C := xm_C9) (T := xm_T9) (N := 25) hc xd_49_80 ho rfl (by decide) xm_u9 xl_181) <|
    xl_cons (xk_iload_n hc xd_49_83 rfl) <|
    xl_cons (xk_aload_n hc xd_49_84 rfl) <|
    xl_cons (xk_getfield (C := xm_C9) (T := xm_T9) (N := 25) hc xd_49_85 ho rfl (by decide) xm_u9 xl_181) <|
    xl_cons (xk_bipush hc xd_49_88 (by decide)) <|
    xl_cons (xk_iload_n hc xd_49_90 rfl) <|
    xl_cons (xk_iadd hc xd_49_91) <|
    xl_cons (xk_iaload hc xd_49_92) <|
    xl_cons (xk_iastore hc xd_49_93) <|
    xl_cons (xk_aload_n hc xd_49_94 rfl) <|
    xl_cons (xk_getfield (C := xm_C9) (T := xm_T9) (N := 25) hc xd_49_95 ho rfl (by decide) xm_u9 xl_183) <|
    xl_cons (xk_iload_n hc xd_49_98 rfl) <|
    xl_cons (xk_aload_n hc xd_49_99 rfl) <|
    xl_cons (xk_getfield (C := xm_C9) (T := xm_T9) (N := 25) hc xd_49_100 ho rfl (by decide) xm_u9 xl_183) <|
    xl_cons (xk_bipush hc xd_49_103 (by decide)) <|
    xl_cons (xk_iload_n hc xd_49_105 rfl) <|
    xl_cons (xk_iadd hc xd_49_106) <|
    xl_cons (xk_iaload hc xd_49_107) <|
    xl_cons (xk_iastore hc xd_49_108) <|
    xl_cons (xk_iconst hc xd_49_109 (by decide)) <|
    xl_cons (xk_istore_n hc xd_49_110 hm rfl (by decide)) <|
    xl_cons (xk_iload_n hc xd_49_111 rfl) <|
    xl_cons (xk_bipush hc xd_49_112 (by decide)) <|
    xl_cons (xk_if_icmp hc xd_49_114 (by decide)) <|
    xl_cons (xk_aload_n hc xd_49_117 rfl) <|
    xl_cons (xk_getfield (C := xm_C9) (T := xm_T9) (N := 25) hc xd_49_118 ho rfl (by decide) xm_u9 xl_182) <|
    xl_cons (xk_bipush hc xd_49_121 (by decide)) <|
    xl_cons (xk_iload_n hc xd_49_123 rfl) <|
    xl_cons (xk_imul hc xd_49_124) <|
    xl_cons (xk_iload_n hc xd_49_125 rfl) <|
    xl_cons (xk_iadd hc xd_49_126) <|
    xl_cons (xk_aload_n hc xd_49_127 rfl) <|
    xl_cons (xk_getfield (C := xm_C9) (T := xm_T9) (N := 25) hc xd_49_128 ho rfl (by decide) xm_u9 xl_182) (xl_nil)
set_option maxRecDepth 100000 in
theorem xo_49_2 : ∀ e ∈ ([(131, 2, .bipush 8, 0, 0, .int 8, [], none),
  (133, 2, .bipush 12, 0, 0, .int 12, [], none),
  (135, 1, .iload_n 1, 1, 0, .null, [], none),
  (136, 1, .iadd, 0, 0, .null, [], none),
  (137, 1, .imul, 0, 0, .null, [], none),
  (138, 1, .iload_n 2, 2, 0, .null, [], none),
  (139, 1, .iadd, 0, 0, .null, [], none),
  (140, 1, .iaload, 0, 0, .null, [], none),
  (141, 1, .iastore, 0, 0, .null, [], none),
  (142, 1, .aload_n 0, 0, 0, .null, [], none),
  (143, 3, .getfield 28, 9, 8, .null, [], none),
  (146, 2, .bipush 8, 0, 0, .int 8, [], none),
  (148, 1, .iload_n 1, 1, 0, .null, [], none),
  (149, 1, .imul, 0, 0, .null, [], none),
  (150, 1, .iload_n 2, 2, 0, .null, [], none),
  (151, 1, .iadd, 0, 0, .null, [], none),
  (152, 1, .aload_n 0, 0, 0, .null, [], none),
  (153, 3, .getfield 28, 9, 8, .null, [], none),
  (156, 2, .bipush 8, 0, 0, .int 8, [], none),
  (158, 2, .bipush 12, 0, 0, .int 12, [], none),
  (160, 1, .iload_n 1, 1, 0, .null, [], none),
  (161, 1, .iadd, 0, 0, .null, [], none),
  (162, 1, .imul, 0, 0, .null, [], none),
  (163, 1, .iload_n 2, 2, 0, .null, [], none),
  (164, 1, .iadd, 0, 0, .null, [], none),
  (165, 1, .iaload, 0, 0, .null, [], none),
  (166, 1, .iastore, 0, 0, .null, [], none),
  (167, 1, .aload_n 0, 0, 0, .null, [], none),
  (168, 3, .getfield 31, 9, 9, .null, [], none),
  (171, 2, .bipush 8, 0, 0, .int 8, [], none),
  (173, 1, .iload_n 1, 1, 0, .null, [], none),
  (174, 1, .imul, 0, 0, .null, [], none),
  (175, 1, .iload_n 2, 2, 0, .null, [], none),
  (176, 1, .iadd, 0, 0, .null, [], none),
  (177, 1, .aload_n 0, 0, 0, .null, [], none),
  (178, 3, .getfield 31, 9, 9, .null, [], none),
  (181, 2, .bipush 8, 0, 0, .int 8, [], none),
  (183, 2, .bipush 12, 0, 0, .int 12, [], none),
  (185, 1, .iload_n 1, 1, 0, .null, [], none),
  (186, 1, .iadd, 0, 0, .null, [], none)] : List xr_E), xr_sd xm_P 49 e := by
  have hc : xp_cd xm_P 49 = prog_12_method_20_code := rfl
  have ho : xp_own xm_P 49 = "ExchangeTextModel" := rfl
  have hm : xp_ml xm_P 49 = 3 := rfl
  exact xl_cons (xk_bipush hc xd_49_131 (by decide)) <|
    xl_cons (xk_bipush hc xd_49_133 (by decide)) <|
    xl_cons (xk_iload_n hc xd_49_135 rfl) <|
    xl_cons (xk_iadd hc xd_49_136) <|
    xl_cons (xk_imul hc xd_49_137) <|
    xl_cons (xk_iload_n hc xd_49_138 rfl) <|
    xl_cons (xk_iadd hc xd_49_139) <|
    xl_cons (xk_iaload hc xd_49_140) <|
    xl_cons (xk_iastore hc xd_49_141) <|
    xl_cons (xk_aload_n hc xd_49_142 rfl) <|
    xl_cons (xk_getfield (C := xm_C9) (T := xm_T9) (N := 25) hc xd_49_143 ho rfl (by decide) xm_u9 xl_184) <|
    xl_cons (xk_bipush hc xd_49_146 (by decide)) <|
    xl_cons (xk_iload_n hc xd_49_148 rfl) <|
    xl_cons (xk_imul hc xd_49_149) <|
    xl_cons (xk_iload_n hc xd_49_150 rfl) <|
    xl_cons (xk_iadd hc xd_49_151) <|
    xl_cons (xk_aload_n hc xd_49_152 rfl) <|
    xl_cons (xk_getfield (C := xm_C9) (T := xm_T9) (N := 25) hc xd_49_153 ho rfl (by decide) xm_u9 xl_184) <|
    xl_cons (xk_bipush hc xd_49_156 (by decide)) <|
    xl_cons (xk_bipush hc xd_49_158 (by decide)) <|
    xl_cons (xk_iload_n hc xd_49_160 rfl) <|
    xl_cons (xk_iadd hc xd_49_161) <|
    xl_cons (xk_imul hc xd_49_162) <|
    xl_cons (xk_iload_n hc xd_49_163 rfl) <|
    xl_cons (xk_iadd hc xd_49_164) <|
    xl_cons (xk_iaload hc xd_49_165) <|
    xl_cons (xk_iastore hc xd_49_166) <|
    xl_cons (xk_aload_n hc xd_49_167 rfl) <|
    xl_cons (xk_getfield (C := xm_C9) (T := xm_T9) (N := 25) hc xd_49_168 ho rfl (by decide) xm_u9 xl_186) <|
    xl_cons (xk_bipush hc xd_49_171 (by decide)) <|
    xl_cons (xk_iload_n hc xd_49_173 rfl) <|
    xl_cons (xk_imul hc xd_49_174) <|
    xl_cons (xk_iload_n hc xd_49_175 rfl) <|
    xl_cons (xk_iadd hc xd_49_176) <|
    xl_cons (xk_aload_n hc xd_49_177 rfl) <|
    xl_cons (xk_getfield (C := xm_C9) (T := xm_T9) (N := 25) hc xd_49_178 ho rfl (by decide) xm_u9 xl_186) <|
    xl_cons (xk_bipush hc xd_49_181 (by decide)) <|
    xl_cons (xk_bipush hc xd_49_183 (by decide)) <|
    xl_cons (xk_iload_n hc xd_49_185 rfl) <|
    xl_cons (xk_iadd hc xd_49_186) (xl_nil)
set_option maxRecDepth 100000 in
theorem xo_49_3 : ∀ e ∈ ([(187, 1, .imul, 0, 0, .null, [], none),
  (188, 1, .iload_n 2, 2, 0, .null, [], none),
  (189, 1, .iadd, 0, 0, .null, [], none),
  (190, 1, .baload, 0, 0, .null, [], none),
  (191, 1, .bastore, 0, 0, .null, [], none),
  (192, 3, .iinc 2 1, 2, 0, .int 1, [], none),
  (195, 3, .goto (-84), 111, 0, .null, [], none),
  (198, 3, .iinc 1 1, 1, 0, .int 1, [], none),
  (201, 3, .goto (-128), 73, 0, .null, [], none),
  (204, 1, .aload_n 0, 0, 0, .null, [], none),
  (205, 1, .iconst 0, 0, 0, .int 0, [], none),
  (206, 3, .putfield 79, 9, 1, .null, [], none),
  (209, 1, .aload_n 0, 0, 0, .null, [], none),
  (210, 3, .getfield 16, 9, 4, .null, [], none),
  (213, 1, .iconst 0, 0, 0, .int 0, [], none),
  (214, 1, .iaload, 0, 0, .null, [], none),
  (215, 1, .ireturn, 0, 0, .null, [], none)] : List xr_E), xr_sd xm_P 49 e := by
  have hc : xp_cd xm_P 49 = prog_12_method_20_code := rfl
  have ho : xp_own xm_P 49 = "ExchangeTextModel" := rfl
  have hm : xp_ml xm_P 49 = 3 := rfl
  exact xl_cons (xk_imul hc xd_49_187) <|
    xl_cons (xk_iload_n hc xd_49_188 rfl) <|
    xl_cons (xk_iadd hc xd_49_189) <|
    xl_cons (xk_baload hc xd_49_190) <|
    xl_cons (xk_bastore hc xd_49_191) <|
    xl_cons (xk_iinc hc xd_49_192 hm rfl (by decide) (by decide)) <|
    xl_cons (xk_goto hc xd_49_195 (by decide)) <|
    xl_cons (xk_iinc hc xd_49_198 hm rfl (by decide) (by decide)) <|
    xl_cons (xk_goto hc xd_49_201 (by decide)) <|
    xl_cons (xk_aload_n hc xd_49_204 rfl) <|
    xl_cons (xk_iconst hc xd_49_205 (by decide)) <|
    xl_cons (xk_putfield (C := xm_C9) (T := xm_T9) (N := 25) (ty := xm_ty9) hc xd_49_206 ho rfl (by decide) xm_u9 xm_tk9 rfl xm_nm9 xl_205 rfl) <|
    xl_cons (xk_aload_n hc xd_49_209 rfl) <|
    xl_cons (xk_getfield (C := xm_C9) (T := xm_T9) (N := 25) hc xd_49_210 ho rfl (by decide) xm_u9 xl_180) <|
    xl_cons (xk_iconst hc xd_49_213 (by decide)) <|
    xl_cons (xk_iaload hc xd_49_214) <|
    xl_cons (xk_ireturn hc xd_49_215) (xl_nil)
theorem xo_49 : ∀ e ∈ xm_i49, xr_sd xm_P 49 e := xl_app xo_49_0 (xl_app xo_49_1 (xl_app xo_49_2 (xo_49_3)))
set_option maxRecDepth 100000 in
theorem xo_50_0 : ∀ e ∈ ([(0, 2, .bipush 40, 0, 0, .int 40, [], none),
  (2, 1, .iload_n 1, 1, 0, .null, [], none),
  (3, 1, .imul, 0, 0, .null, [], none),
  (4, 1, .istore_n 3, 3, 0, .null, [], none),
  (5, 1, .iload_n 3, 3, 0, .null, [], none),
  (6, 2, .bipush 40, 0, 0, .int 40, [], none),
  (8, 1, .iload_n 1, 1, 0, .null, [], none),
  (9, 1, .imul, 0, 0, .null, [], none),
  (10, 1, .aload_n 0, 0, 0, .null, [], none),
  (11, 3, .getfield 35, 9, 10, .null, [], none),
  (14, 1, .iload_n 1, 1, 0, .null, [], none),
  (15, 1, .iaload, 0, 0, .null, [], none),
  (16, 1, .iadd, 0, 0, .null, [], none),
  (17, 3, .if_icmp .ge 21, 38, 0, .null, [], none),
  (20, 1, .aload_n 0, 0, 0, .null, [], none),
  (21, 3, .getfield 38, 9, 11, .null, [], none),
  (24, 1, .iload_n 3, 3, 0, .null, [], none),
  (25, 1, .iaload, 0, 0, .null, [], none),
  (26, 1, .iload_n 2, 2, 0, .null, [], none),
  (27, 3, .if_icmp .ne 5, 32, 0, .null, [], none),
  (30, 1, .iload_n 3, 3, 0, .null, [], none),
  (31, 1, .ireturn, 0, 0, .null, [], none),
  (32, 3, .iinc 3 1, 3, 0, .int 1, [], none),
  (35, 3, .goto (-30), 5, 0, .null, [], none),
  (38, 1, .iconst (-1), 0, 0, .int (-1), [], none),
  (39, 1, .ireturn, 0, 0, .null, [], none)] : List xr_E), xr_sd xm_P 50 e := by
  have hc : xp_cd xm_P 50 = prog_12_method_21_code := rfl
  have ho : xp_own xm_P 50 = "ExchangeTextModel" := rfl
  have hm : xp_ml xm_P 50 = 4 := rfl
  exact xl_cons (xk_bipush hc xd_50_0 (by decide)) <|
    xl_cons (xk_iload_n hc xd_50_2 rfl) <|
    xl_cons (xk_imul hc xd_50_3) <|
    xl_cons (xk_istore_n hc xd_50_4 hm rfl (by decide)) <|
    xl_cons (xk_iload_n hc xd_50_5 rfl) <|
    xl_cons (xk_bipush hc xd_50_6 (by decide)) <|
    xl_cons (xk_iload_n hc xd_50_8 rfl) <|
    xl_cons (xk_imul hc xd_50_9) <|
    xl_cons (xk_aload_n hc xd_50_10 rfl) <|
    xl_cons (xk_getfield (C := xm_C9) (T := xm_T9) (N := 25) hc xd_50_11 ho rfl (by decide) xm_u9 xl_187) <|
    xl_cons (xk_iload_n hc xd_50_14 rfl) <|
    xl_cons (xk_iaload hc xd_50_15) <|
    xl_cons (xk_iadd hc xd_50_16) <|
    xl_cons (xk_if_icmp hc xd_50_17 (by decide)) <|
    xl_cons (xk_aload_n hc xd_50_20 rfl) <|
    xl_cons (xk_getfield (C := xm_C9) (T := xm_T9) (N := 25) hc xd_50_21 ho rfl (by decide) xm_u9 xl_188) <|
    xl_cons (xk_iload_n hc xd_50_24 rfl) <|
    xl_cons (xk_iaload hc xd_50_25) <|
    xl_cons (xk_iload_n hc xd_50_26 rfl) <|
    xl_cons (xk_if_icmp hc xd_50_27 (by decide)) <|
    xl_cons (xk_iload_n hc xd_50_30 rfl) <|
    xl_cons (xk_ireturn hc xd_50_31) <|
    xl_cons (xk_iinc hc xd_50_32 hm rfl (by decide) (by decide)) <|
    xl_cons (xk_goto hc xd_50_35 (by decide)) <|
    xl_cons (xk_iconst hc xd_50_38 (by decide)) <|
    xl_cons (xk_ireturn hc xd_50_39) (xl_nil)
theorem xo_50 : ∀ e ∈ xm_i50, xr_sd xm_P 50 e := xo_50_0
set_option maxRecDepth 100000 in
theorem xo_51_0 : ∀ e ∈ ([(0, 1, .aload_n 0, 0, 0, .null, [], none),
  (1, 3, .getfield 82, 9, 18, .null, [], none),
  (4, 1, .istore_n 2, 2, 0, .null, [], none),
  (5, 1, .iconst 0, 0, 0, .int 0, [], none),
  (6, 1, .istore_n 3, 3, 0, .null, [], none),
  (7, 1, .aload_n 0, 0, 0, .null, [], none),
  (8, 3, .getfield 82, 9, 18, .null, [], none),
  (11, 1, .iconst 1, 0, 0, .int 1, [], none),
  (12, 1, .iadd, 0, 0, .null, [], none),
  (13, 2, .istore 4, 4, 0, .null, [], none),
  (15, 1, .iconst 1, 0, 0, .int 1, [], none),
  (16, 2, .istore 5, 5, 0, .null, [], none),
  (18, 2, .iload 5, 5, 0, .null, [], none),
  (20, 3, .ifCond .eq 167, 187, 0, .null, [], none),
  (23, 1, .aload_n 0, 0, 0, .null, [], none),
  (24, 3, .getfield 85, 9, 19, .null, [], none),
  (27, 1, .iconst (-1), 0, 0, .int (-1), [], none),
  (28, 3, .if_icmp .ne 159, 187, 0, .null, [], none),
  (31, 2, .iload 4, 4, 0, .null, [], none),
  (33, 1, .aload_n 0, 0, 0, .null, [], none),
  (34, 3, .getfield 79, 9, 1, .null, [], none),
  (37, 3, .if_icmp .ge 19, 56, 0, .null, [], none),
  (40, 1, .aload_n 0, 0, 0, .null, [], none),
  (41, 3, .getfield 7, 9, 2, .null, [], none),
  (44, 2, .iload 4, 4, 0, .null, [], none),
  (46, 1, .iaload, 0, 0, .null, [], none),
  (47, 2, .bipush 39, 0, 0, .int 39, [], none),
  (49, 3, .if_icmp .ne 7, 56, 0, .null, [], none),
  (52, 1, .iconst 1, 0, 0, .int 1, [], none),
  (53, 3, .goto 4, 57, 0, .null, [], none),
  (56, 1, .iconst 0, 0, 0, .int 0, [], none),
  (57, 2, .istore 6, 6, 0, .null, [], none),
  (59, 2, .iload 6, 6, 0, .null, [], none),
  (61, 3, .ifCond .eq 32, 93, 0, .null, [], none),
  (64, 2, .iload 4, 4, 0, .null, [], none),
  (66, 1, .iconst 1, 0, 0, .int 1, [], none),
  (67, 1, .iadd, 0, 0, .null, [], none),
  (68, 1, .aload_n 0, 0, 0, .null, [], none),
  (69, 3, .getfield 79, 9, 1, .null, [], none),
  (72, 3, .if_icmp .ge 21, 93, 0, .null, [], none)] : List xr_E), xr_sd xm_P 51 e := by
  have hc : xp_cd xm_P 51 = prog_12_method_22_code := rfl
  have ho : xp_own xm_P 51 = "ExchangeTextModel" := rfl
  have hm : xp_ml xm_P 51 = 8 := rfl
  exact xl_cons (xk_aload_n hc xd_51_0 rfl) <|
    xl_cons (xk_getfield (C := xm_C9) (T := xm_T9) (N := 25) hc xd_51_1 ho rfl (by decide) xm_u9 xl_206) <|
    xl_cons (xk_istore_n hc xd_51_4 hm rfl (by decide)) <|
    xl_cons (xk_iconst hc xd_51_5 (by decide)) <|
    xl_cons (xk_istore_n hc xd_51_6 hm rfl (by decide)) <|
    xl_cons (xk_aload_n hc xd_51_7 rfl) <|
    xl_cons (xk_getfield (C := xm_C9) (T := xm_T9) (N := 25) hc xd_51_8 ho rfl (by decide) xm_u9 xl_206) <|
    xl_cons (xk_iconst hc xd_51_11 (by decide)) <|
    xl_cons (xk_iadd hc xd_51_12) <|
    xl_cons (xk_istore hc xd_51_13 hm rfl (by decide)) <|
    xl_cons (xk_iconst hc xd_51_15 (by decide)) <|
    xl_cons (xk_istore hc xd_51_16 hm rfl (by decide)) <|
    xl_cons (xk_iload hc xd_51_18 rfl) <|
    xl_cons (xk_ifCond hc xd_51_20 (by decide)) <|
    xl_cons (xk_aload_n hc xd_51_23 rfl) <|
    xl_cons (xk_getfield (C := xm_C9) (T := xm_T9) (N := 25) hc xd_51_24 ho rfl (by decide) xm_u9 xl_207) <|
    xl_cons (xk_iconst hc xd_51_27 (by decide)) <|
    xl_cons (xk_if_icmp hc xd_51_28 (by decide)) <|
    xl_cons (xk_iload hc xd_51_31 rfl) <|
    xl_cons (xk_aload_n hc xd_51_33 rfl) <|
    xl_cons (xk_getfield (C := xm_C9) (T := xm_T9) (N := 25) hc xd_51_34 ho rfl (by decide) xm_u9 xl_205) <|
    xl_cons (xk_if_icmp hc xd_51_37 (by decide)) <|
    xl_cons (xk_aload_n hc xd_51_40 rfl) <|
    xl_cons (xk_getfield (C := xm_C9) (T := xm_T9) (N := 25) hc xd_51_41 ho rfl (by decide) xm_u9 xl_178) <|
    xl_cons (xk_iload hc xd_51_44 rfl) <|
    xl_cons (xk_iaload hc xd_51_46) <|
    xl_cons (xk_bipush hc xd_51_47 (by decide)) <|
    xl_cons (xk_if_icmp hc xd_51_49 (by decide)) <|
    xl_cons (xk_iconst hc xd_51_52 (by decide)) <|
    xl_cons (xk_goto hc xd_51_53 (by decide)) <|
    xl_cons (xk_iconst hc xd_51_56 (by decide)) <|
    xl_cons (xk_istore hc xd_51_57 hm rfl (by decide)) <|
    xl_cons (xk_iload hc xd_51_59 rfl) <|
    xl_cons (xk_ifCond hc xd_51_61 (by decide)) <|
    xl_cons (xk_iload hc xd_51_64 rfl) <|
    xl_cons (xk_iconst hc xd_51_66 (by decide)) <|
    xl_cons (xk_iadd hc xd_51_67) <|
    xl_cons (xk_aload_n hc xd_51_68 rfl) <|
    xl_cons (xk_getfield (C := xm_C9) (T := xm_T9) (N := 25) hc xd_51_69 ho rfl (by decide) xm_u9 xl_205) <|
    xl_cons (xk_if_icmp hc xd_51_72 (by decide)) (xl_nil)
set_option maxRecDepth 100000 in
theorem xo_51_1 : ∀ e ∈ ([(75, 1, .aload_n 0, 0, 0, .null, [], none),
  (76, 3, .getfield 7, 9, 2, .null, [], none),
  (79, 2, .iload 4, 4, 0, .null, [], none),
  (81, 1, .iconst 1, 0, 0, .int 1, [], none),
  (82, 1, .iadd, 0, 0, .null, [], none),
  (83, 1, .iaload, 0, 0, .null, [], none),
  (84, 2, .bipush 39, 0, 0, .int 39, [], none),
  (86, 3, .if_icmp .ne 7, 93, 0, .null, [], none),
  (89, 1, .iconst 1, 0, 0, .int 1, [], none),
  (90, 3, .goto 4, 94, 0, .null, [], none),
  (93, 1, .iconst 0, 0, 0, .int 0, [], none),
  (94, 2, .istore 7, 7, 0, .null, [], none),
  (96, 2, .iload 4, 4, 0, .null, [], none),
  (98, 1, .aload_n 0, 0, 0, .null, [], none),
  (99, 3, .getfield 79, 9, 1, .null, [], none),
  (102, 3, .if_icmp .ge 19, 121, 0, .null, [], none),
  (105, 1, .iload_n 3, 3, 0, .null, [], none),
  (106, 2, .bipush 20, 0, 0, .int 20, [], none),
  (108, 3, .if_icmp .ne 21, 129, 0, .null, [], none),
  (111, 2, .iload 6, 6, 0, .null, [], none),
  (113, 3, .ifCond .eq 8, 121, 0, .null, [], none),
  (116, 2, .iload 7, 7, 0, .null, [], none),
  (118, 3, .ifCond .eq 11, 129, 0, .null, [], none),
  (121, 1, .aload_n 0, 0, 0, .null, [], none),
  (122, 1, .iload_n 2, 2, 0, .null, [], none),
  (123, 3, .invokevirtual 92, 39, 2, .retAddr 0, [], none),
  (126, 3, .goto 58, 184, 0, .null, [], none),
  (129, 2, .iload 6, 6, 0, .null, [], none),
  (131, 3, .ifCond .eq 17, 148, 0, .null, [], none),
  (134, 2, .iload 7, 7, 0, .null, [], none),
  (136, 3, .ifCond .ne 12, 148, 0, .null, [], none),
  (139, 1, .iconst 0, 0, 0, .int 0, [], none),
  (140, 2, .istore 5, 5, 0, .null, [], none),
  (142, 3, .iinc 4 1, 4, 0, .int 1, [], none),
  (145, 3, .goto 39, 184, 0, .null, [], none),
  (148, 1, .aload_n 0, 0, 0, .null, [], none),
  (149, 3, .getfield 56, 9, 17, .null, [], none),
  (152, 2, .bipush 20, 0, 0, .int 20, [], none),
  (154, 1, .iload_n 1, 1, 0, .null, [], none),
  (155, 1, .imul, 0, 0, .null, [], none)] : List xr_E), xr_sd xm_P 51 e := by
  have hc : xp_cd xm_P 51 = prog_12_method_22_code := rfl
  have ho : xp_own xm_P 51 = "ExchangeTextModel" := rfl
  have hm : xp_ml xm_P 51 = 8 := rfl
  exact xl_cons (xk_aload_n hc xd_51_75 rfl) <|
    xl_cons (xk_getfield (C := xm_C9) (T := xm_T9) (N := 25) hc xd_51_76 ho rfl (by decide) xm_u9 xl_178) <|
    xl_cons (xk_iload hc xd_51_79 rfl) <|
    xl_cons (xk_iconst hc xd_51_81 (by decide)) <|
    xl_cons (xk_iadd hc xd_51_82) <|
    xl_cons (xk_iaload hc xd_51_83) <|
    xl_cons (xk_bipush hc xd_51_84 (by decide)) <|
    xl_cons (xk_if_icmp hc xd_51_86 (by decide)) <|
    xl_cons (xk_iconst hc xd_51_89 (by decide)) <|
    xl_cons (xk_goto hc xd_51_90 (by decide)) <|
    xl_cons (xk_iconst hc xd_51_93 (by decide)) <|
    xl_cons (xk_istore hc xd_51_94 hm rfl (by decide)) <|
    xl_cons (xk_iload hc xd_51_96 rfl) <|
    xl_cons (xk_aload_n hc xd_51_98 rfl) <|
    xl_cons (xk_getfield (C := xm_C9) (T := xm_T9) (N := 25) hc xd_51_99 ho rfl (by decide) xm_u9 xl_205) <|
    xl_cons (xk_if_icmp hc xd_51_102 (by decide)) <|
    xl_cons (xk_iload_n hc xd_51_105 rfl) <|
    xl_cons (xk_bipush hc xd_51_106 (by decide)) <|
    xl_cons (xk_if_icmp hc xd_51_108 (by decide)) <|
    xl_cons (xk_iload hc xd_51_111 rfl) <|
    xl_cons (xk_ifCond hc xd_51_113 (by decide)) <|
    xl_cons (xk_iload hc xd_51_116 rfl) <|
    xl_cons (xk_ifCond hc xd_51_118 (by decide)) <|
    xl_cons (xk_aload_n hc xd_51_121 rfl) <|
    xl_cons (xk_iload_n hc xd_51_122 rfl) <|
    xl_cons (xk_callV (Y := xm_y39) ho rfl (by decide) ⟨by decide, by decide⟩ xl_202 hc xd_51_123 rfl (b' := 1) rfl xm_nd39 (T := xm_T9) (N := 25) rfl xl_211 xl_212 xl_213) <|
    xl_cons (xk_goto hc xd_51_126 (by decide)) <|
    xl_cons (xk_iload hc xd_51_129 rfl) <|
    xl_cons (xk_ifCond hc xd_51_131 (by decide)) <|
    xl_cons (xk_iload hc xd_51_134 rfl) <|
    xl_cons (xk_ifCond hc xd_51_136 (by decide)) <|
    xl_cons (xk_iconst hc xd_51_139 (by decide)) <|
    xl_cons (xk_istore hc xd_51_140 hm rfl (by decide)) <|
    xl_cons (xk_iinc hc xd_51_142 hm rfl (by decide) (by decide)) <|
    xl_cons (xk_goto hc xd_51_145 (by decide)) <|
    xl_cons (xk_aload_n hc xd_51_148 rfl) <|
    xl_cons (xk_getfield (C := xm_C9) (T := xm_T9) (N := 25) hc xd_51_149 ho rfl (by decide) xm_u9 xl_194) <|
    xl_cons (xk_bipush hc xd_51_152 (by decide)) <|
    xl_cons (xk_iload_n hc xd_51_154 rfl) <|
    xl_cons (xk_imul hc xd_51_155) (xl_nil)
set_option maxRecDepth 100000 in
theorem xo_51_2 : ∀ e ∈ ([(156, 1, .iload_n 3, 3, 0, .null, [], none),
  (157, 1, .iadd, 0, 0, .null, [], none),
  (158, 1, .aload_n 0, 0, 0, .null, [], none),
  (159, 3, .getfield 7, 9, 2, .null, [], none),
  (162, 2, .iload 4, 4, 0, .null, [], none),
  (164, 1, .iaload, 0, 0, .null, [], none),
  (165, 1, .iastore, 0, 0, .null, [], none),
  (166, 3, .iinc 3 1, 3, 0, .int 1, [], none),
  (169, 2, .iload 4, 4, 0, .null, [], none),
  (171, 2, .iload 7, 7, 0, .null, [], none),
  (173, 3, .ifCond .eq 7, 180, 0, .null, [], none),
  (176, 1, .iconst 2, 0, 0, .int 2, [], none),
  (177, 3, .goto 4, 181, 0, .null, [], none),
  (180, 1, .iconst 1, 0, 0, .int 1, [], none),
  (181, 1, .iadd, 0, 0, .null, [], none),
  (182, 2, .istore 4, 4, 0, .null, [], none),
  (184, 3, .goto (-166), 18, 0, .null, [], none),
  (187, 1, .aload_n 0, 0, 0, .null, [], none),
  (188, 2, .iload 4, 4, 0, .null, [], none),
  (190, 3, .putfield 82, 9, 18, .null, [], none),
  (193, 1, .aload_n 0, 0, 0, .null, [], none),
  (194, 3, .getfield 50, 9, 15, .null, [], none),
  (197, 1, .iload_n 1, 1, 0, .null, [], none),
  (198, 1, .iconst 1, 0, 0, .int 1, [], none),
  (199, 1, .iastore, 0, 0, .null, [], none),
  (200, 1, .aload_n 0, 0, 0, .null, [], none),
  (201, 3, .getfield 53, 9, 16, .null, [], none),
  (204, 1, .iload_n 1, 1, 0, .null, [], none),
  (205, 1, .iload_n 3, 3, 0, .null, [], none),
  (206, 1, .iastore, 0, 0, .null, [], none),
  (207, 1, .return_, 0, 0, .null, [], none)] : List xr_E), xr_sd xm_P 51 e := by
  have hc : xp_cd xm_P 51 = prog_12_method_22_code := rfl
  have ho : xp_own xm_P 51 = "ExchangeTextModel" := rfl
  have hm : xp_ml xm_P 51 = 8 := rfl
  exact xl_cons (xk_iload_n hc xd_51_156 rfl) <|
    xl_cons (xk_iadd hc xd_51_157) <|
    xl_cons (xk_aload_n hc xd_51_158 rfl) <|
    xl_cons (xk_getfield (C := xm_C9) (T := xm_T9) (N := 25) hc xd_51_159 ho rfl (by decide) xm_u9 xl_178) <|
    xl_cons (xk_iload hc xd_51_162 rfl) <|
    xl_cons (xk_iaload hc xd_51_164) <|
    xl_cons (xk_iastore hc xd_51_165) <|
    xl_cons (xk_iinc hc xd_51_166 hm rfl (by decide) (by decide)) <|
    xl_cons (xk_iload hc xd_51_169 rfl) <|
    xl_cons (xk_iload hc xd_51_171 rfl) <|
    xl_cons (xk_ifCond hc xd_51_173 (by decide)) <|
    xl_cons (xk_iconst hc xd_51_176 (by decide)) <|
    xl_cons (xk_goto hc xd_51_177 (by decide)) <|
    xl_cons (xk_iconst hc xd_51_180 (by decide)) <|
    xl_cons (xk_iadd hc xd_51_181) <|
    xl_cons (xk_istore hc xd_51_182 hm rfl (by decide)) <|
    xl_cons (xk_goto hc xd_51_184 (by decide)) <|
    xl_cons (xk_aload_n hc xd_51_187 rfl) <|
    xl_cons (xk_iload hc xd_51_188 rfl) <|
    xl_cons (xk_putfield (C := xm_C9) (T := xm_T9) (N := 25) (ty := xm_ty9) hc xd_51_190 ho rfl (by decide) xm_u9 xm_tk9 rfl xm_nm9 xl_206 rfl) <|
    xl_cons (xk_aload_n hc xd_51_193 rfl) <|
    xl_cons (xk_getfield (C := xm_C9) (T := xm_T9) (N := 25) hc xd_51_194 ho rfl (by decide) xm_u9 xl_192) <|
    xl_cons (xk_iload_n hc xd_51_197 rfl) <|
    xl_cons (xk_iconst hc xd_51_198 (by decide)) <|
    xl_cons (xk_iastore hc xd_51_199) <|
    xl_cons (xk_aload_n hc xd_51_200 rfl) <|
    xl_cons (xk_getfield (C := xm_C9) (T := xm_T9) (N := 25) hc xd_51_201 ho rfl (by decide) xm_u9 xl_193) <|
    xl_cons (xk_iload_n hc xd_51_204 rfl) <|
    xl_cons (xk_iload_n hc xd_51_205 rfl) <|
    xl_cons (xk_iastore hc xd_51_206) <|
    xl_cons (xk_return_ hc xd_51_207) (xl_nil)
theorem xo_51 : ∀ e ∈ xm_i51, xr_sd xm_P 51 e := xl_app xo_51_0 (xl_app xo_51_1 (xo_51_2))
set_option maxRecDepth 100000 in
theorem xo_52_0 : ∀ e ∈ ([(0, 1, .aload_n 0, 0, 0, .null, [], none),
  (1, 2, .bipush 40, 0, 0, .int 40, [], none),
  (3, 3, .invokevirtual 110, 40, 2, .retAddr 0, [], none),
  (6, 1, .iconst 0, 0, 0, .int 0, [], none),
  (7, 1, .istore_n 2, 2, 0, .null, [], none),
  (8, 1, .aload_n 0, 0, 0, .null, [], none),
  (9, 3, .invokevirtual 88, 36, 1, .retAddr 0, [], none),
  (12, 1, .istore_n 3, 3, 0, .null, [], none),
  (13, 1, .aload_n 0, 0, 0, .null, [], none),
  (14, 3, .getfield 50, 9, 15, .null, [], none),
  (17, 1, .iload_n 1, 1, 0, .null, [], none),
  (18, 1, .iload_n 3, 3, 0, .null, [], none),
  (19, 2, .bipush 35, 0, 0, .int 35, [], none),
  (21, 3, .if_icmp .ne 7, 28, 0, .null, [], none),
  (24, 1, .iconst 4, 0, 0, .int 4, [], none),
  (25, 3, .goto 4, 29, 0, .null, [], none),
  (28, 1, .iconst 3, 0, 0, .int 3, [], none),
  (29, 1, .iastore, 0, 0, .null, [], none),
  (30, 1, .iload_n 3, 3, 0, .null, [], none),
  (31, 2, .bipush 41, 0, 0, .int 41, [], none),
  (33, 3, .if_icmp .eq 7, 40, 0, .null, [], none),
  (36, 1, .iconst 1, 0, 0, .int 1, [], none),
  (37, 3, .goto 4, 41, 0, .null, [], none),
  (40, 1, .iconst 0, 0, 0, .int 0, [], none),
  (41, 2, .istore 4, 4, 0, .null, [], none),
  (43, 2, .iload 4, 4, 0, .null, [], none),
  (45, 3, .ifCond .eq 145, 190, 0, .null, [], none),
  (48, 1, .aload_n 0, 0, 0, .null, [], none),
  (49, 3, .getfield 85, 9, 19, .null, [], none),
  (52, 1, .iconst (-1), 0, 0, .int (-1), [], none),
  (53, 3, .if_icmp .ne 137, 190, 0, .null, [], none),
  (56, 1, .aload_n 0, 0, 0, .null, [], none),
  (57, 3, .invokevirtual 88, 36, 1, .retAddr 0, [], none),
  (60, 1, .istore_n 3, 3, 0, .null, [], none),
  (61, 1, .aload_n 0, 0, 0, .null, [], none),
  (62, 3, .getfield 50, 9, 15, .null, [], none),
  (65, 1, .iload_n 1, 1, 0, .null, [], none),
  (66, 1, .iaload, 0, 0, .null, [], none),
  (67, 1, .iconst 4, 0, 0, .int 4, [], none),
  (68, 3, .if_icmp .ne 17, 85, 0, .null, [], none)] : List xr_E), xr_sd xm_P 52 e := by
  have hc : xp_cd xm_P 52 = prog_12_method_23_code := rfl
  have ho : xp_own xm_P 52 = "ExchangeTextModel" := rfl
  have hm : xp_ml xm_P 52 = 6 := rfl
  exact xl_cons (xk_aload_n hc xd_52_0 rfl) <|
    xl_cons (xk_bipush hc xd_52_1 (by decide)) <|
    xl_cons (xk_callV (Y := xm_y40) ho rfl (by decide) ⟨by decide, by decide⟩ xl_202 hc xd_52_3 rfl (b' := 1) rfl xm_nd40 (T := xm_T9) (N := 25) rfl xl_222 xl_223 xl_224) <|
    xl_cons (xk_iconst hc xd_52_6 (by decide)) <|
    xl_cons (xk_istore_n hc xd_52_7 hm rfl (by decide)) <|
    xl_cons (xk_aload_n hc xd_52_8 rfl) <|
    xl_cons (xk_callV (Y := xm_y36) ho rfl (by decide) ⟨by decide, by decide⟩ xl_202 hc xd_52_9 rfl (b' := 0) rfl xm_nd36 (T := xm_T9) (N := 25) rfl xl_208 xl_209 xl_210) <|
    xl_cons (xk_istore_n hc xd_52_12 hm rfl (by decide)) <|
    xl_cons (xk_aload_n hc xd_52_13 rfl) <|
    xl_cons (xk_getfield (C := xm_C9) (T := xm_T9) (N := 25) hc xd_52_14 ho rfl (by decide) xm_u9 xl_192) <|
    xl_cons (xk_iload_n hc xd_52_17 rfl) <|
    xl_cons (xk_iload_n hc xd_52_18 rfl) <|
    xl_cons (xk_bipush hc xd_52_19 (by decide)) <|
    xl_cons (xk_if_icmp hc xd_52_21 (by decide)) <|
    xl_cons (xk_iconst hc xd_52_24 (by decide)) <|
    xl_cons (xk_goto hc xd_52_25 (by decide)) <|
    xl_cons (xk_iconst hc xd_52_28 (by decide)) <|
    xl_cons (xk_iastore hc xd_52_29) <|
    xl_cons (xk_iload_n hc xd_52_30 rfl) <|
    xl_cons (xk_bipush hc xd_52_31 (by decide)) <|
    xl_cons (xk_if_icmp hc xd_52_33 (by decide)) <|
    xl_cons (xk_iconst hc xd_52_36 (by decide)) <|
    xl_cons (xk_goto hc xd_52_37 (by decide)) <|
    xl_cons (xk_iconst hc xd_52_40 (by decide)) <|
    xl_cons (xk_istore hc xd_52_41 hm rfl (by decide)) <|
    xl_cons (xk_iload hc xd_52_43 rfl) <|
    xl_cons (xk_ifCond hc xd_52_45 (by decide)) <|
    xl_cons (xk_aload_n hc xd_52_48 rfl) <|
    xl_cons (xk_getfield (C := xm_C9) (T := xm_T9) (N := 25) hc xd_52_49 ho rfl (by decide) xm_u9 xl_207) <|
    xl_cons (xk_iconst hc xd_52_52 (by decide)) <|
    xl_cons (xk_if_icmp hc xd_52_53 (by decide)) <|
    xl_cons (xk_aload_n hc xd_52_56 rfl) <|
    xl_cons (xk_callV (Y := xm_y36) ho rfl (by decide) ⟨by decide, by decide⟩ xl_202 hc xd_52_57 rfl (b' := 0) rfl xm_nd36 (T := xm_T9) (N := 25) rfl xl_208 xl_209 xl_210) <|
    xl_cons (xk_istore_n hc xd_52_60 hm rfl (by decide)) <|
    xl_cons (xk_aload_n hc xd_52_61 rfl) <|
    xl_cons (xk_getfield (C := xm_C9) (T := xm_T9) (N := 25) hc xd_52_62 ho rfl (by decide) xm_u9 xl_192) <|
    xl_cons (xk_iload_n hc xd_52_65 rfl) <|
    xl_cons (xk_iaload hc xd_52_66) <|
    xl_cons (xk_iconst hc xd_52_67 (by decide)) <|
    xl_cons (xk_if_icmp hc xd_52_68 (by decide)) (xl_nil)
set_option maxRecDepth 100000 in
theorem xo_52_1 : ∀ e ∈ ([(71, 1, .iload_n 3, 3, 0, .null, [], none),
  (72, 2, .bipush 35, 0, 0, .int 35, [], none),
  (74, 3, .if_icmp .ne 7, 81, 0, .null, [], none),
  (77, 1, .iconst 1, 0, 0, .int 1, [], none),
  (78, 3, .goto 11, 89, 0, .null, [], none),
  (81, 1, .iconst 0, 0, 0, .int 0, [], none),
  (82, 3, .goto 7, 89, 0, .null, [], none),
  (85, 1, .iload_n 3, 3, 0, .null, [], none),
  (86, 3, .invokestatic 128, 45, 1, .retAddr 2, [], none),
  (89, 2, .istore 5, 5, 0, .null, [], none),
  (91, 1, .iload_n 2, 2, 0, .null, [], none),
  (92, 2, .bipush 6, 0, 0, .int 6, [], none),
  (94, 3, .if_icmp .eq 8, 102, 0, .null, [], none),
  (97, 2, .iload 5, 5, 0, .null, [], none),
  (99, 3, .ifCond .ne 14, 113, 0, .null, [], none),
  (102, 1, .aload_n 0, 0, 0, .null, [], none),
  (103, 1, .aload_n 0, 0, 0, .null, [], none),
  (104, 3, .getfield 82, 9, 18, .null, [], none),
  (107, 3, .invokevirtual 92, 39, 2, .retAddr 0, [], none),
  (110, 3, .goto 77, 187, 0, .null, [], none),
  (113, 1, .aload_n 0, 0, 0, .null, [], none),
  (114, 3, .getfield 56, 9, 17, .null, [], none),
  (117, 2, .bipush 20, 0, 0, .int 20, [], none),
  (119, 1, .iload_n 1, 1, 0, .null, [], none),
  (120, 1, .imul, 0, 0, .null, [], none),
  (121, 1, .iload_n 2, 2, 0, .null, [], none),
  (122, 1, .iadd, 0, 0, .null, [], none),
  (123, 1, .aload_n 0, 0, 0, .null, [], none),
  (124, 3, .getfield 50, 9, 15, .null, [], none),
  (127, 1, .iload_n 1, 1, 0, .null, [], none),
  (128, 1, .iaload, 0, 0, .null, [], none),
  (129, 1, .iconst 4, 0, 0, .int 4, [], none),
  (130, 3, .if_icmp .ne 10, 140, 0, .null, [], none),
  (133, 1, .aload_n 0, 0, 0, .null, [], none),
  (134, 3, .invokevirtual 131, 44, 1, .retAddr 0, [], none),
  (137, 3, .goto 7, 144, 0, .null, [], none),
  (140, 1, .aload_n 0, 0, 0, .null, [], none),
  (141, 3, .invokevirtual 134, 43, 1, .retAddr 0, [], none),
  (144, 1, .iastore, 0, 0, .null, [], none),
  (145, 3, .iinc 2 1, 2, 0, .int 1, [], none)] : List xr_E), xr_sd xm_P 52 e := by
  have hc : xp_cd xm_P 52 = prog_12_method_23_code := rfl
  have ho : xp_own xm_P 52 = "ExchangeTextModel" := rfl
  have hm : xp_ml xm_P 52 = 6 := rfl
  exact xl_cons (xk_iload_n hc xd_52_71 rfl) <|
    xl_cons (xk_bipush hc xd_52_72 (by decide)) <|
    xl_cons (xk_if_icmp hc xd_52_74 (by decide)) <|
    xl_cons (xk_iconst hc xd_52_77 (by decide)) <|
    xl_cons (xk_goto hc xd_52_78 (by decide)) <|
    xl_cons (xk_iconst hc xd_52_81 (by decide)) <|
    xl_cons (xk_goto hc xd_52_82 (by decide)) <|
    xl_cons (xk_iload_n hc xd_52_85 rfl) <|
    xl_cons (xk_callS (Y := xm_y45) ho rfl (by decide) ⟨by decide, by decide⟩ xl_202 hc xd_52_86 rfl xm_nd45 xl_235 xl_236) <|
    xl_cons (xk_istore hc xd_52_89 hm rfl (by decide)) <|
    xl_cons (xk_iload_n hc xd_52_91 rfl) <|
    xl_cons (xk_bipush hc xd_52_92 (by decide)) <|
    xl_cons (xk_if_icmp hc xd_52_94 (by decide)) <|
    xl_cons (xk_iload hc xd_52_97 rfl) <|
    xl_cons (xk_ifCond hc xd_52_99 (by decide)) <|
    xl_cons (xk_aload_n hc xd_52_102 rfl) <|
    xl_cons (xk_aload_n hc xd_52_103 rfl) <|
    xl_cons (xk_getfield (C := xm_C9) (T := xm_T9) (N := 25) hc xd_52_104 ho rfl (by decide) xm_u9 xl_206) <|
    xl_cons (xk_callV (Y := xm_y39) ho rfl (by decide) ⟨by decide, by decide⟩ xl_202 hc xd_52_107 rfl (b' := 1) rfl xm_nd39 (T := xm_T9) (N := 25) rfl xl_211 xl_212 xl_213) <|
    xl_cons (xk_goto hc xd_52_110 (by decide)) <|
    xl_cons (xk_aload_n hc xd_52_113 rfl) <|
    xl_cons (xk_getfield (C := xm_C9) (T := xm_T9) (N := 25) hc xd_52_114 ho rfl (by decide) xm_u9 xl_194) <|
    xl_cons (xk_bipush hc xd_52_117 (by decide)) <|
    xl_cons (xk_iload_n hc xd_52_119 rfl) <|
    xl_cons (xk_imul hc xd_52_120) <|
    xl_cons (xk_iload_n hc xd_52_121 rfl) <|
    xl_cons (xk_iadd hc xd_52_122) <|
    xl_cons (xk_aload_n hc xd_52_123 rfl) <|
    xl_cons (xk_getfield (C := xm_C9) (T := xm_T9) (N := 25) hc xd_52_124 ho rfl (by decide) xm_u9 xl_192) <|
    xl_cons (xk_iload_n hc xd_52_127 rfl) <|
    xl_cons (xk_iaload hc xd_52_128) <|
    xl_cons (xk_iconst hc xd_52_129 (by decide)) <|
    xl_cons (xk_if_icmp hc xd_52_130 (by decide)) <|
    xl_cons (xk_aload_n hc xd_52_133 rfl) <|
    xl_cons (xk_callV (Y := xm_y44) ho rfl (by decide) ⟨by decide, by decide⟩ xl_202 hc xd_52_134 rfl (b' := 0) rfl xm_nd44 (T := xm_T9) (N := 25) rfl xl_237 xl_238 xl_239) <|
    xl_cons (xk_goto hc xd_52_137 (by decide)) <|
    xl_cons (xk_aload_n hc xd_52_140 rfl) <|
    xl_cons (xk_callV (Y := xm_y43) ho rfl (by decide) ⟨by decide, by decide⟩ xl_202 hc xd_52_141 rfl (b' := 0) rfl xm_nd43 (T := xm_T9) (N := 25) rfl xl_240 xl_241 xl_242) <|
    xl_cons (xk_iastore hc xd_52_144) <|
    xl_cons (xk_iinc hc xd_52_145 hm rfl (by decide) (by decide)) (xl_nil)
set_option maxRecDepth 100000 in
theorem xo_52_2 : ∀ e ∈ ([(148, 1, .aload_n 0, 0, 0, .null, [], none),
  (149, 3, .getfield 85, 9, 19, .null, [], none),
  (152, 1, .iconst (-1), 0, 0, .int (-1), [], none),
  (153, 3, .if_icmp .ne 16, 169, 0, .null, [], none),
  (156, 1, .aload_n 0, 0, 0, .null, [], none),
  (157, 3, .invokevirtual 88, 36, 1, .retAddr 0, [], none),
  (160, 2, .bipush 44, 0, 0, .int 44, [], none),
  (162, 3, .if_icmp .ne 7, 169, 0, .null, [], none),
  (165, 1, .iconst 1, 0, 0, .int 1, [], none),
  (166, 3, .goto 4, 170, 0, .null, [], none),
  (169, 1, .iconst 0, 0, 0, .int 0, [], none),
  (170, 2, .istore 4, 4, 0, .null, [], none),
  (172, 2, .iload 4, 4, 0, .null, [], none),
  (174, 3, .ifCond .eq 13, 187, 0, .null, [], none),
  (177, 1, .aload_n 0, 0, 0, .null, [], none),
  (178, 1, .dup, 0, 0, .null, [], none),
  (179, 3, .getfield 82, 9, 18, .null, [], none),
  (182, 1, .iconst 1, 0, 0, .int 1, [], none),
  (183, 1, .iadd, 0, 0, .null, [], none),
  (184, 3, .putfield 82, 9, 18, .null, [], none),
  (187, 3, .goto (-144), 43, 0, .null, [], none),
  (190, 1, .aload_n 0, 0, 0, .null, [], none),
  (191, 2, .bipush 41, 0, 0, .int 41, [], none),
  (193, 3, .invokevirtual 110, 40, 2, .retAddr 0, [], none),
  (196, 1, .aload_n 0, 0, 0, .null, [], none),
  (197, 3, .getfield 53, 9, 16, .null, [], none),
  (200, 1, .iload_n 1, 1, 0, .null, [], none),
  (201, 1, .iload_n 2, 2, 0, .null, [], none),
  (202, 1, .iastore, 0, 0, .null, [], none),
  (203, 1, .return_, 0, 0, .null, [], none)] : List xr_E), xr_sd xm_P 52 e := by
  have hc : xp_cd xm_P 52 = prog_12_method_23_code := rfl
  have ho : xp_own xm_P 52 = "ExchangeTextModel" := rfl
  have hm : xp_ml xm_P 52 = 6 := rfl
  exact xl_cons (xk_aload_n hc xd_52_148 rfl) <|
    xl_cons (xk_getfield (C := xm_C9) (T := xm_T9) (N := 25) hc xd_52_149 ho rfl (by decide) xm_u9 xl_207) <|
    xl_cons (xk_iconst hc xd_52_152 (by decide)) <|
    xl_cons (xk_if_icmp hc xd_52_153 (by decide)) <|
    xl_cons (xk_aload_n hc xd_52_156 rfl) <|
    xl_cons (xk_callV (Y := xm_y36) ho rfl (by decide) ⟨by decide, by decide⟩ xl_202 hc xd_52_157 rfl (b' := 0) rfl xm_nd36 (T := xm_T9) (N := 25) rfl xl_208 xl_209 xl_210) <|
    xl_cons (xk_bipush hc xd_52_160 (by decide)) <|
    xl_cons (xk_if_icmp hc xd_52_162 (by decide)) <|
    xl_cons (xk_iconst hc xd_52_165 (by decide)) <|
    xl_cons (xk_goto hc xd_52_166 (by decide)) <|
    xl_cons (xk_iconst hc xd_52_169 (by decide)) <|
    xl_cons (xk_istore hc xd_52_170 hm rfl (by decide)) <|
    xl_cons (xk_iload hc xd_52_172 rfl) <|
    xl_cons (xk_ifCond hc xd_52_174 (by decide)) <|
    xl_cons (xk_aload_n hc xd_52_177 rfl) <|
    xl_cons (xk_dup hc xd_52_178) <|
    xl_cons (xk_getfield (C := xm_C9) (T := xm_T9) (N := 25) hc xd_52_179 ho rfl (by decide) xm_u9 xl_206) <|
    xl_cons (xk_iconst hc xd_52_182 (by decide)) <|
    xl_cons (xk_iadd hc xd_52_183) <|
    xl_cons (xk_putfield (C := xm_C9) (T := xm_T9) (N := 25) (ty := xm_ty9) hc xd_52_184 ho rfl (by decide) xm_u9 xm_tk9 rfl xm_nm9 xl_206 rfl) <|
    xl_cons (xk_goto hc xd_52_187 (by decide)) <|
    xl_cons (xk_aload_n hc xd_52_190 rfl) <|
    xl_cons (xk_bipush hc xd_52_191 (by decide)) <|
    xl_cons (xk_callV (Y := xm_y40) ho rfl (by decide) ⟨by decide, by decide⟩ xl_202 hc xd_52_193 rfl (b' := 1) rfl xm_nd40 (T := xm_T9) (N := 25) rfl xl_222 xl_223 xl_224) <|
    xl_cons (xk_aload_n hc xd_52_196 rfl) <|
    xl_cons (xk_getfield (C := xm_C9) (T := xm_T9) (N := 25) hc xd_52_197 ho rfl (by decide) xm_u9 xl_193) <|
    xl_cons (xk_iload_n hc xd_52_200 rfl) <|
    xl_cons (xk_iload_n hc xd_52_201 rfl) <|
    xl_cons (xk_iastore hc xd_52_202) <|
    xl_cons (xk_return_ hc xd_52_203) (xl_nil)
theorem xo_52 : ∀ e ∈ xm_i52, xr_sd xm_P 52 e := xl_app xo_52_0 (xl_app xo_52_1 (xo_52_2))
set_option maxRecDepth 100000 in
theorem xo_53_0 : ∀ e ∈ ([(0, 1, .aload_n 0, 0, 0, .null, [], none),
  (1, 3, .invokevirtual 88, 36, 1, .retAddr 0, [], none),
  (4, 1, .istore_n 2, 2, 0, .null, [], none),
  (5, 1, .aload_n 0, 0, 0, .null, [], none),
  (6, 3, .getfield 53, 9, 16, .null, [], none),
  (9, 1, .iload_n 1, 1, 0, .null, [], none),
  (10, 1, .iconst 0, 0, 0, .int 0, [], none),
  (11, 1, .iastore, 0, 0, .null, [], none),
  (12, 1, .iload_n 2, 2, 0, .null, [], none),
  (13, 3, .invokestatic 128, 45, 1, .retAddr 2, [], none),
  (16, 3, .ifCond .eq 23, 39, 0, .null, [], none),
  (19, 1, .aload_n 0, 0, 0, .null, [], none),
  (20, 3, .getfield 50, 9, 15, .null, [], none),
  (23, 1, .iload_n 1, 1, 0, .null, [], none),
  (24, 1, .iconst 0, 0, 0, .int 0, [], none),
  (25, 1, .iastore, 0, 0, .null, [], none),
  (26, 1, .aload_n 0, 0, 0, .null, [], none),
  (27, 3, .getfield 53, 9, 16, .null, [], none),
  (30, 1, .iload_n 1, 1, 0, .null, [], none),
  (31, 1, .aload_n 0, 0, 0, .null, [], none),
  (32, 3, .invokevirtual 134, 43, 1, .retAddr 0, [], none),
  (35, 1, .iastore, 0, 0, .null, [], none),
  (36, 3, .goto 142, 178, 0, .null, [], none),
  (39, 1, .iload_n 2, 2, 0, .null, [], none),
  (40, 2, .bipush 39, 0, 0, .int 39, [], none),
  (42, 3, .if_icmp .ne 11, 53, 0, .null, [], none),
  (45, 1, .aload_n 0, 0, 0, .null, [], none),
  (46, 1, .iload_n 1, 1, 0, .null, [], none),
  (47, 3, .invokevirtual 137, 51, 2, .retAddr 0, [], none),
  (50, 3, .goto 128, 178, 0, .null, [], none),
  (53, 1, .iload_n 2, 2, 0, .null, [], none),
  (54, 2, .bipush 35, 0, 0, .int 35, [], none),
  (56, 3, .if_icmp .ne 23, 79, 0, .null, [], none),
  (59, 1, .aload_n 0, 0, 0, .null, [], none),
  (60, 3, .getfield 50, 9, 15, .null, [], none),
  (63, 1, .iload_n 1, 1, 0, .null, [], none),
  (64, 1, .iconst 2, 0, 0, .int 2, [], none),
  (65, 1, .iastore, 0, 0, .null, [], none),
  (66, 1, .aload_n 0, 0, 0, .null, [], none),
  (67, 3, .getfield 53, 9, 16, .null, [], none)] : List xr_E), xr_sd xm_P 53 e := by
  have hc : xp_cd xm_P 53 = prog_12_method_24_code := rfl
  have ho : xp_own xm_P 53 = "ExchangeTextModel" := rfl
  have hm : xp_ml xm_P 53 = 3 := rfl
  exact xl_cons (xk_aload_n hc xd_53_0 rfl) <|
    xl_cons (xk_callV (Y := xm_y36) ho rfl (by decide) ⟨by decide, by decide⟩ xl_202 hc xd_53_1 rfl (b' := 0) rfl xm_nd36 (T := xm_T9) (N := 25) rfl xl_208 xl_209 xl_210) <|
    xl_cons (xk_istore_n hc xd_53_4 hm rfl (by decide)) <|
    xl_cons (xk_aload_n hc xd_53_5 rfl) <|
    xl_cons (xk_getfield (C := xm_C9) (T := xm_T9) (N := 25) hc xd_53_6 ho rfl (by decide) xm_u9 xl_193) <|
    xl_cons (xk_iload_n hc xd_53_9 rfl) <|
    xl_cons (xk_iconst hc xd_53_10 (by decide)) <|
    xl_cons (xk_iastore hc xd_53_11) <|
    xl_cons (xk_iload_n hc xd_53_12 rfl) <|
    xl_cons (xk_callS (Y := xm_y45) ho rfl (by decide) ⟨by decide, by decide⟩ xl_202 hc xd_53_13 rfl xm_nd45 xl_235 xl_236) <|
    xl_cons (xk_ifCond hc xd_53_16 (by decide)) <|
    xl_cons (xk_aload_n hc xd_53_19 rfl) <|
    xl_cons (xk_getfield (C := xm_C9) (T := xm_T9) (N := 25) hc xd_53_20 ho rfl (by decide) xm_u9 xl_192) <|
    xl_cons (xk_iload_n hc xd_53_23 rfl) <|
    xl_cons (xk_iconst hc xd_53_24 (by decide)) <|
    xl_cons (xk_iastore hc xd_53_25) <|
    xl_cons (xk_aload_n hc xd_53_26 rfl) <|
    xl_cons (xk_getfield (C := xm_C9) (T := xm_T9) (N := 25) hc xd_53_27 ho rfl (by decide) xm_u9 xl_193) <|
    xl_cons (xk_iload_n hc xd_53_30 rfl) <|
    xl_cons (xk_aload_n hc xd_53_31 rfl) <|
    xl_cons (xk_callV (Y := xm_y43) ho rfl (by decide) ⟨by decide, by decide⟩ xl_202 hc xd_53_32 rfl (b' := 0) rfl xm_nd43 (T := xm_T9) (N := 25) rfl xl_240 xl_241 xl_242) <|
    xl_cons (xk_iastore hc xd_53_35) <|
    xl_cons (xk_goto hc xd_53_36 (by decide)) <|
    xl_cons (xk_iload_n hc xd_53_39 rfl) <|
    xl_cons (xk_bipush hc xd_53_40 (by decide)) <|
    xl_cons (xk_if_icmp hc xd_53_42 (by decide)) <|
    xl_cons (xk_aload_n hc xd_53_45 rfl) <|
    xl_cons (xk_iload_n hc xd_53_46 rfl) <|
    xl_cons (xk_callV (Y := xm_y51) ho rfl (by decide) ⟨by decide, by decide⟩ xl_202 hc xd_53_47 rfl (b' := 1) rfl xm_nd51 (T := xm_T9) (N := 25) rfl xl_243 xl_244 xl_245) <|
    xl_cons (xk_goto hc xd_53_50 (by decide)) <|
    xl_cons (xk_iload_n hc xd_53_53 rfl) <|
    xl_cons (xk_bipush hc xd_53_54 (by decide)) <|
    xl_cons (xk_if_icmp hc xd_53_56 (by decide)) <|
    xl_cons (xk_aload_n hc xd_53_59 rfl) <|
    xl_cons (xk_getfield (C := xm_C9) (T := xm_T9) (N := 25) hc xd_53_60 ho rfl (by decide) xm_u9 xl_192) <|
    xl_cons (xk_iload_n hc xd_53_63 rfl) <|
    xl_cons (xk_iconst hc xd_53_64 (by decide)) <|
    xl_cons (xk_iastore hc xd_53_65) <|
    xl_cons (xk_aload_n hc xd_53_66 rfl) <|
    xl_cons (xk_getfield (C := xm_C9) (T := xm_T9) (N := 25) hc xd_53_67 ho rfl (by decide) xm_u9 xl_193) (xl_nil)
set_option maxRecDepth 100000 in
theorem xo_53_1 : ∀ e ∈ ([(70, 1, .iload_n 1, 1, 0, .null, [], none),
  (71, 1, .aload_n 0, 0, 0, .null, [], none),
  (72, 3, .invokevirtual 131, 44, 1, .retAddr 0, [], none),
  (75, 1, .iastore, 0, 0, .null, [], none),
  (76, 3, .goto 102, 178, 0, .null, [], none),
  (79, 1, .iload_n 2, 2, 0, .null, [], none),
  (80, 2, .bipush 36, 0, 0, .int 36, [], none),
  (82, 3, .if_icmp .ne 24, 106, 0, .null, [], none),
  (85, 1, .aload_n 0, 0, 0, .null, [], none),
  (86, 3, .getfield 50, 9, 15, .null, [], none),
  (89, 1, .iload_n 1, 1, 0, .null, [], none),
  (90, 2, .bipush 6, 0, 0, .int 6, [], none),
  (92, 1, .iastore, 0, 0, .null, [], none),
  (93, 1, .aload_n 0, 0, 0, .null, [], none),
  (94, 1, .dup, 0, 0, .null, [], none),
  (95, 3, .getfield 82, 9, 18, .null, [], none),
  (98, 1, .iconst 1, 0, 0, .int 1, [], none),
  (99, 1, .iadd, 0, 0, .null, [], none),
  (100, 3, .putfield 82, 9, 18, .null, [], none),
  (103, 3, .goto 75, 178, 0, .null, [], none),
  (106, 1, .iload_n 2, 2, 0, .null, [], none),
  (107, 2, .bipush 46, 0, 0, .int 46, [], none),
  (109, 3, .if_icmp .ne 47, 156, 0, .null, [], none),
  (112, 1, .aload_n 0, 0, 0, .null, [], none),
  (113, 1, .dup, 0, 0, .null, [], none),
  (114, 3, .getfield 82, 9, 18, .null, [], none),
  (117, 1, .iconst 1, 0, 0, .int 1, [], none),
  (118, 1, .iadd, 0, 0, .null, [], none),
  (119, 3, .putfield 82, 9, 18, .null, [], none),
  (122, 1, .aload_n 0, 0, 0, .null, [], none),
  (123, 3, .getfield 50, 9, 15, .null, [], none),
  (126, 1, .iload_n 1, 1, 0, .null, [], none),
  (127, 1, .iconst 5, 0, 0, .int 5, [], none),
  (128, 1, .iastore, 0, 0, .null, [], none),
  (129, 1, .aload_n 0, 0, 0, .null, [], none),
  (130, 3, .getfield 53, 9, 16, .null, [], none),
  (133, 1, .iload_n 1, 1, 0, .null, [], none),
  (134, 1, .aload_n 0, 0, 0, .null, [], none),
  (135, 1, .aload_n 0, 0, 0, .null, [], none),
  (136, 3, .getfield 56, 9, 17, .null, [], none)] : List xr_E), xr_sd xm_P 53 e := by
  have hc : xp_cd xm_P 53 = prog_12_method_24_code := rfl
  have ho : xp_own xm_P 53 = "ExchangeTextModel" := rfl
  have hm : xp_ml xm_P 53 = 3 := rfl
  exact xl_cons (xk_iload_n hc xd_53_70 rfl) <|
    xl_cons (xk_aload_n hc xd_53_71 rfl) <|
    xl_cons (xk_callV (Y := xm_y44) ho rfl (by decide) ⟨by decide, by decide⟩ xl_202 hc xd_53_72 rfl (b' := 0) rfl xm_nd44 (T := xm_T9) (N := 25) rfl xl_237 xl_238 xl_239) <|
    xl_cons (xk_iastore hc xd_53_75) <|
    xl_cons (xk_goto hc xd_53_76 (by decide)) <|
    xl_cons (xk_iload_n hc xd_53_79 rfl) <|
    xl_cons (xk_bipush hc xd_53_80 (by decide)) <|
    xl_cons (xk_if_icmp hc xd_53_82 (by decide)) <|
    xl_cons (xk_aload_n hc xd_53_85 rfl) <|
    xl_cons (xk_getfield (C := xm_C9) (T := xm_T9) (N := 25) hc xd_53_86 ho rfl (by decide) xm_u9 xl_192) <|
    xl_cons (xk_iload_n hc xd_53_89 rfl) <|
    xl_cons (xk_bipush hc xd_53_90 (by decide)) <|
    xl_cons (xk_iastore hc xd_53_92) <|
    xl_cons (xk_aload_n hc xd_53_93 rfl) <|
    xl_cons (xk_dup hc xd_53_94) <|
    xl_cons (xk_getfield (C := xm_C9) (T := xm_T9) (N := 25) hc xd_53_95 ho rfl (by decide) xm_u9 xl_206) <|
    xl_cons (xk_iconst hc xd_53_98 (by decide)) <|
    xl_cons (xk_iadd hc xd_53_99) <|
    xl_cons (xk_putfield (C := xm_C9) (T := xm_T9) (N := 25) (ty := xm_ty9) hc xd_53_100 ho rfl (by decide) xm_u9 xm_tk9 rfl xm_nm9 xl_206 rfl) <|
    xl_cons (xk_goto hc xd_53_103 (by decide)) <|
    xl_cons (xk_iload_n hc xd_53_106 rfl) <|
    xl_cons (xk_bipush hc xd_53_107 (by decide)) <|
    xl_cons (xk_if_icmp hc xd_53_109 (by decide)) <|
    xl_cons (xk_aload_n hc xd_53_112 rfl) <|
    xl_cons (xk_dup hc xd_53_113) <|
    xl_cons (xk_getfield (C := xm_C9) (T := xm_T9) (N := 25) hc xd_53_114 ho rfl (by decide) xm_u9 xl_206) <|
    xl_cons (xk_iconst hc xd_53_117 (by decide)) <|
    xl_cons (xk_iadd hc xd_53_118) <|
    xl_cons (xk_putfield (C := xm_C9) (T := xm_T9) (N := 25) (ty := xm_ty9) hc xd_53_119 ho rfl (by decide) xm_u9 xm_tk9 rfl xm_nm9 xl_206 rfl) <|
    xl_cons (xk_aload_n hc xd_53_122 rfl) <|
    xl_cons (xk_getfield (C := xm_C9) (T := xm_T9) (N := 25) hc xd_53_123 ho rfl (by decide) xm_u9 xl_192) <|
    xl_cons (xk_iload_n hc xd_53_126 rfl) <|
    xl_cons (xk_iconst hc xd_53_127 (by decide)) <|
    xl_cons (xk_iastore hc xd_53_128) <|
    xl_cons (xk_aload_n hc xd_53_129 rfl) <|
    xl_cons (xk_getfield (C := xm_C9) (T := xm_T9) (N := 25) hc xd_53_130 ho rfl (by decide) xm_u9 xl_193) <|
    xl_cons (xk_iload_n hc xd_53_133 rfl) <|
    xl_cons (xk_aload_n hc xd_53_134 rfl) <|
    xl_cons (xk_aload_n hc xd_53_135 rfl) <|
    xl_cons (xk_getfield (C := xm_C9) (T := xm_T9) (N := 25) hc xd_53_136 ho rfl (by decide) xm_u9 xl_194) (xl_nil)
set_option maxRecDepth 100000 in
theorem xo_53_2 : ∀ e ∈ ([(139, 2, .bipush 20, 0, 0, .int 20, [], none),
  (141, 1, .iload_n 1, 1, 0, .null, [], none),
  (142, 1, .imul, 0, 0, .null, [], none),
  (143, 3, .invokevirtual 113, 42, 3, .retAddr 0, [], none),
  (146, 1, .iastore, 0, 0, .null, [], none),
  (147, 1, .aload_n 0, 0, 0, .null, [], none),
  (148, 2, .bipush 46, 0, 0, .int 46, [], none),
  (150, 3, .invokevirtual 110, 40, 2, .retAddr 0, [], none),
  (153, 3, .goto 25, 178, 0, .null, [], none),
  (156, 1, .iload_n 2, 2, 0, .null, [], none),
  (157, 2, .bipush 40, 0, 0, .int 40, [], none),
  (159, 3, .if_icmp .ne 11, 170, 0, .null, [], none),
  (162, 1, .aload_n 0, 0, 0, .null, [], none),
  (163, 1, .iload_n 1, 1, 0, .null, [], none),
  (164, 3, .invokevirtual 140, 52, 2, .retAddr 0, [], none),
  (167, 3, .goto 11, 178, 0, .null, [], none),
  (170, 1, .aload_n 0, 0, 0, .null, [], none),
  (171, 1, .aload_n 0, 0, 0, .null, [], none),
  (172, 3, .getfield 82, 9, 18, .null, [], none),
  (175, 3, .invokevirtual 92, 39, 2, .retAddr 0, [], none),
  (178, 1, .return_, 0, 0, .null, [], none)] : List xr_E), xr_sd xm_P 53 e := by
  have hc : xp_cd xm_P 53 = prog_12_method_24_code := rfl
  have ho : xp_own xm_P 53 = "ExchangeTextModel" := rfl
  have hm : xp_ml xm_P 53 = 3 := rfl
  exact xl_cons (xk_bipush hc xd_53_139 (by decide)) <|
    xl_cons (xk_iload_n hc xd_53_141 rfl) <|
    xl_cons (xk_imul hc xd_53_142) <|
    xl_cons (xk_callV (Y := xm_y42) ho rfl (by decide) ⟨by decide, by decide⟩ xl_202 hc xd_53_143 rfl (b' := 2) rfl xm_nd42 (T := xm_T9) (N := 25) rfl xl_225 xl_226 xl_227) <|
    xl_cons (xk_iastore hc xd_53_146) <|
    xl_cons (xk_aload_n hc xd_53_147 rfl) <|
    xl_cons (xk_bipush hc xd_53_148 (by decide)) <|
    xl_cons (xk_callV (Y := xm_y40) ho rfl (by decide) ⟨by decide, by decide⟩ xl_202 hc xd_53_150 rfl (b' := 1) rfl xm_nd40 (T := xm_T9) (N := 25) rfl xl_222 xl_223 xl_224) <|
    xl_cons (xk_goto hc xd_53_153 (by decide)) <|
    xl_cons (xk_iload_n hc xd_53_156 rfl) <|
    xl_cons (xk_bipush hc xd_53_157 (by decide)) <|
    xl_cons (xk_if_icmp hc xd_53_159 (by decide)) <|
    xl_cons (xk_aload_n hc xd_53_162 rfl) <|
    xl_cons (xk_iload_n hc xd_53_163 rfl) <|
    xl_cons (xk_callV (Y := xm_y52) ho rfl (by decide) ⟨by decide, by decide⟩ xl_202 hc xd_53_164 rfl (b' := 1) rfl xm_nd52 (T := xm_T9) (N := 25) rfl xl_246 xl_247 xl_248) <|
    xl_cons (xk_goto hc xd_53_167 (by decide)) <|
    xl_cons (xk_aload_n hc xd_53_170 rfl) <|
    xl_cons (xk_aload_n hc xd_53_171 rfl) <|
    xl_cons (xk_getfield (C := xm_C9) (T := xm_T9) (N := 25) hc xd_53_172 ho rfl (by decide) xm_u9 xl_206) <|
    xl_cons (xk_callV (Y := xm_y39) ho rfl (by decide) ⟨by decide, by decide⟩ xl_202 hc xd_53_175 rfl (b' := 1) rfl xm_nd39 (T := xm_T9) (N := 25) rfl xl_211 xl_212 xl_213) <|
    xl_cons (xk_return_ hc xd_53_178) (xl_nil)
theorem xo_53 : ∀ e ∈ xm_i53, xr_sd xm_P 53 e := xl_app xo_53_0 (xl_app xo_53_1 (xo_53_2))
set_option maxRecDepth 100000 in
theorem xo_54_0 : ∀ e ∈ ([(0, 1, .aload_n 0, 0, 0, .null, [], none),
  (1, 3, .invokevirtual 88, 36, 1, .retAddr 0, [], none),
  (4, 2, .bipush 35, 0, 0, .int 35, [], none),
  (6, 3, .if_icmp .ne 14, 20, 0, .null, [], none),
  (9, 1, .aload_n 0, 0, 0, .null, [], none),
  (10, 3, .getfield 35, 9, 10, .null, [], none),
  (13, 1, .iconst 1, 0, 0, .int 1, [], none),
  (14, 1, .iaload, 0, 0, .null, [], none),
  (15, 2, .bipush 40, 0, 0, .int 40, [], none),
  (17, 3, .if_icmp .ne 12, 29, 0, .null, [], none),
  (20, 1, .aload_n 0, 0, 0, .null, [], none),
  (21, 1, .aload_n 0, 0, 0, .null, [], none),
  (22, 3, .getfield 82, 9, 18, .null, [], none),
  (25, 3, .invokevirtual 92, 39, 2, .retAddr 0, [], none),
  (28, 1, .return_, 0, 0, .null, [], none),
  (29, 1, .aload_n 0, 0, 0, .null, [], none),
  (30, 1, .dup, 0, 0, .null, [], none),
  (31, 3, .getfield 82, 9, 18, .null, [], none),
  (34, 1, .iconst 1, 0, 0, .int 1, [], none),
  (35, 1, .iadd, 0, 0, .null, [], none),
  (36, 3, .putfield 82, 9, 18, .null, [], none),
  (39, 2, .bipush 40, 0, 0, .int 40, [], none),
  (41, 1, .aload_n 0, 0, 0, .null, [], none),
  (42, 3, .getfield 35, 9, 10, .null, [], none),
  (45, 1, .iconst 1, 0, 0, .int 1, [], none),
  (46, 1, .iaload, 0, 0, .null, [], none),
  (47, 1, .iadd, 0, 0, .null, [], none),
  (48, 1, .istore_n 1, 1, 0, .null, [], none),
  (49, 1, .aload_n 0, 0, 0, .null, [], none),
  (50, 1, .iconst 3, 0, 0, .int 3, [], none),
  (51, 1, .iconst (-1), 0, 0, .int (-1), [], none),
  (52, 3, .invokevirtual 106, 41, 3, .retAddr 0, [], none),
  (55, 1, .istore_n 2, 2, 0, .null, [], none),
  (56, 1, .iload_n 2, 2, 0, .null, [], none),
  (57, 3, .ifCond .eq 13, 70, 0, .null, [], none),
  (60, 1, .aload_n 0, 0, 0, .null, [], none),
  (61, 1, .iconst 1, 0, 0, .int 1, [], none),
  (62, 1, .iload_n 2, 2, 0, .null, [], none),
  (63, 3, .invokevirtual 143, 50, 3, .retAddr 0, [], none),
  (66, 1, .iconst (-1), 0, 0, .int (-1), [], none)] : List xr_E), xr_sd xm_P 54 e := by
  have hc : xp_cd xm_P 54 = prog_12_method_25_code := rfl
  have ho : xp_own xm_P 54 = "ExchangeTextModel" := rfl
  have hm : xp_ml xm_P 54 = 5 := rfl
  exact xl_cons (xk_aload_n hc xd_54_0 rfl) <|
    xl_cons (xk_callV (Y := xm_y36) ho rfl (by decide) ⟨by decide, by decide⟩ xl_202 hc xd_54_1 rfl (b' := 0) rfl xm_nd36 (T := xm_T9) (N := 25) rfl xl_208 xl_209 xl_210) <|
    xl_cons (xk_bipush hc xd_54_4 (by decide)) <|
    xl_cons (xk_if_icmp hc xd_54_6 (by decide)) <|
    xl_cons (xk_aload_n hc xd_54_9 rfl) <|
    xl_cons (xk_getfield (C := xm_C9) (T := xm_T9) (N := 25) hc xd_54_10 ho rfl (by decide) xm_u9 xl_187) <|
    xl_cons (xk_iconst hc xd_54_13 (by decide)) <|
    xl_cons (xk_iaload hc xd_54_14) <|
    xl_cons (xk_bipush hc xd_54_15 (by decide)) <|
    xl_cons (xk_if_icmp hc xd_54_17 (by decide)) <|
    xl_cons (xk_aload_n hc xd_54_20 rfl) <|
    xl_cons (xk_aload_n hc xd_54_21 rfl) <|
    xl_cons (xk_getfield (C := xm_C9) (T := xm_T9) (N := 25) hc xd_54_22 ho rfl (by decide) xm_u9 xl_206) <|
    xl_cons (xk_callV (Y := xm_y39) ho rfl (by decide) ⟨by decide, by decide⟩ xl_202 hc xd_54_25 rfl (b' := 1) rfl xm_nd39 (T := xm_T9) (N := 25) rfl xl_211 xl_212 xl_213) <|
    xl_cons (xk_return_ hc xd_54_28) <|
    xl_cons (xk_aload_n hc xd_54_29 rfl) <|
    xl_cons (xk_dup hc xd_54_30) <|
    xl_cons (xk_getfield (C := xm_C9) (T := xm_T9) (N := 25) hc xd_54_31 ho rfl (by decide) xm_u9 xl_206) <|
    xl_cons (xk_iconst hc xd_54_34 (by decide)) <|
    xl_cons (xk_iadd hc xd_54_35) <|
    xl_cons (xk_putfield (C := xm_C9) (T := xm_T9) (N := 25) (ty := xm_ty9) hc xd_54_36 ho rfl (by decide) xm_u9 xm_tk9 rfl xm_nm9 xl_206 rfl) <|
    xl_cons (xk_bipush hc xd_54_39 (by decide)) <|
    xl_cons (xk_aload_n hc xd_54_41 rfl) <|
    xl_cons (xk_getfield (C := xm_C9) (T := xm_T9) (N := 25) hc xd_54_42 ho rfl (by decide) xm_u9 xl_187) <|
    xl_cons (xk_iconst hc xd_54_45 (by decide)) <|
    xl_cons (xk_iaload hc xd_54_46) <|
    xl_cons (xk_iadd hc xd_54_47) <|
    xl_cons (xk_istore_n hc xd_54_48 hm rfl (by decide)) <|
    xl_cons (xk_aload_n hc xd_54_49 rfl) <|
    xl_cons (xk_iconst hc xd_54_50 (by decide)) <|
    xl_cons (xk_iconst hc xd_54_51 (by decide)) <|
    xl_cons (xk_callV (Y := xm_y41) ho rfl (by decide) ⟨by decide, by decide⟩ xl_202 hc xd_54_52 rfl (b' := 2) rfl xm_nd41 (T := xm_T9) (N := 25) rfl xl_219 xl_220 xl_221) <|
    xl_cons (xk_istore_n hc xd_54_55 hm rfl (by decide)) <|
    xl_cons (xk_iload_n hc xd_54_56 rfl) <|
    xl_cons (xk_ifCond hc xd_54_57 (by decide)) <|
    xl_cons (xk_aload_n hc xd_54_60 rfl) <|
    xl_cons (xk_iconst hc xd_54_61 (by decide)) <|
    xl_cons (xk_iload_n hc xd_54_62 rfl) <|
    xl_cons (xk_callV (Y := xm_y50) ho rfl (by decide) ⟨by decide, by decide⟩ xl_202 hc xd_54_63 rfl (b' := 2) rfl xm_nd50 (T := xm_T9) (N := 25) rfl xl_249 xl_250 xl_251) <|
    xl_cons (xk_iconst hc xd_54_66 (by decide)) (xl_nil)
set_option maxRecDepth 100000 in
theorem xo_54_1 : ∀ e ∈ ([(67, 3, .if_icmp .eq 11, 78, 0, .null, [], none),
  (70, 1, .aload_n 0, 0, 0, .null, [], none),
  (71, 1, .aload_n 0, 0, 0, .null, [], none),
  (72, 3, .getfield 96, 9, 20, .null, [], none),
  (75, 3, .invokevirtual 92, 39, 2, .retAddr 0, [], none),
  (78, 1, .aload_n 0, 0, 0, .null, [], none),
  (79, 3, .getfield 38, 9, 11, .null, [], none),
  (82, 1, .iload_n 1, 1, 0, .null, [], none),
  (83, 1, .iload_n 2, 2, 0, .null, [], none),
  (84, 1, .iastore, 0, 0, .null, [], none),
  (85, 1, .aload_n 0, 0, 0, .null, [], none),
  (86, 2, .bipush 61, 0, 0, .int 61, [], none),
  (88, 3, .invokevirtual 110, 40, 2, .retAddr 0, [], none),
  (91, 1, .aload_n 0, 0, 0, .null, [], none),
  (92, 3, .getfield 41, 9, 12, .null, [], none),
  (95, 1, .iload_n 1, 1, 0, .null, [], none),
  (96, 1, .aload_n 0, 0, 0, .null, [], none),
  (97, 1, .aload_n 0, 0, 0, .null, [], none),
  (98, 3, .getfield 44, 9, 13, .null, [], none),
  (101, 2, .bipush 8, 0, 0, .int 8, [], none),
  (103, 1, .iload_n 1, 1, 0, .null, [], none),
  (104, 1, .imul, 0, 0, .null, [], none),
  (105, 3, .invokevirtual 113, 42, 3, .retAddr 0, [], none),
  (108, 1, .iastore, 0, 0, .null, [], none),
  (109, 1, .aload_n 0, 0, 0, .null, [], none),
  (110, 2, .bipush 40, 0, 0, .int 40, [], none),
  (112, 3, .invokevirtual 110, 40, 2, .retAddr 0, [], none),
  (115, 1, .iconst 0, 0, 0, .int 0, [], none),
  (116, 1, .istore_n 3, 3, 0, .null, [], none),
  (117, 1, .iconst 1, 0, 0, .int 1, [], none),
  (118, 2, .istore 4, 4, 0, .null, [], none),
  (120, 2, .iload 4, 4, 0, .null, [], none),
  (122, 3, .ifCond .eq 88, 210, 0, .null, [], none),
  (125, 1, .aload_n 0, 0, 0, .null, [], none),
  (126, 3, .getfield 85, 9, 19, .null, [], none),
  (129, 1, .iconst (-1), 0, 0, .int (-1), [], none),
  (130, 3, .if_icmp .ne 80, 210, 0, .null, [], none),
  (133, 1, .aload_n 0, 0, 0, .null, [], none),
  (134, 3, .invokevirtual 88, 36, 1, .retAddr 0, [], none),
  (137, 1, .pop, 0, 0, .null, [], none)] : List xr_E), xr_sd xm_P 54 e := by
  have hc : xp_cd xm_P 54 = prog_12_method_25_code := rfl
  have ho : xp_own xm_P 54 = "ExchangeTextModel" := rfl
  have hm : xp_ml xm_P 54 = 5 := rfl
  exact xl_cons (xk_if_icmp hc xd_54_67 (by decide)) <|
    xl_cons (xk_aload_n hc xd_54_70 rfl) <|
    xl_cons (xk_aload_n hc xd_54_71 rfl) <|
    xl_cons (xk_getfield (C := xm_C9) (T := xm_T9) (N := 25) hc xd_54_72 ho rfl (by decide) xm_u9 xl_214) <|
    xl_cons (xk_callV (Y := xm_y39) ho rfl (by decide) ⟨by decide, by decide⟩ xl_202 hc xd_54_75 rfl (b' := 1) rfl xm_nd39 (T := xm_T9) (N := 25) rfl xl_211 xl_212 xl_213) <|
    xl_cons (xk_aload_n hc xd_54_78 rfl) <|
    xl_cons (xk_getfield (C := xm_C9) (T := xm_T9) (N := 25) hc xd_54_79 ho rfl (by decide) xm_u9 xl_188) <|
    xl_cons (xk_iload_n hc xd_54_82 rfl) <|
    xl_cons (xk_iload_n hc xd_54_83 rfl) <|
    xl_cons (xk_iastore hc xd_54_84) <|
    xl_cons (xk_aload_n hc xd_54_85 rfl) <|
    xl_cons (xk_bipush hc xd_54_86 (by decide)) <|
    xl_cons (xk_callV (Y := xm_y40) ho rfl (by decide) ⟨by decide, by decide⟩ xl_202 hc xd_54_88 rfl (b' := 1) rfl xm_nd40 (T := xm_T9) (N := 25) rfl xl_222 xl_223 xl_224) <|
    xl_cons (xk_aload_n hc xd_54_91 rfl) <|
    xl_cons (xk_getfield (C := xm_C9) (T := xm_T9) (N := 25) hc xd_54_92 ho rfl (by decide) xm_u9 xl_189) <|
    xl_cons (xk_iload_n hc xd_54_95 rfl) <|
    xl_cons (xk_aload_n hc xd_54_96 rfl) <|
    xl_cons (xk_aload_n hc xd_54_97 rfl) <|
    xl_cons (xk_getfield (C := xm_C9) (T := xm_T9) (N := 25) hc xd_54_98 ho rfl (by decide) xm_u9 xl_190) <|
    xl_cons (xk_bipush hc xd_54_101 (by decide)) <|
    xl_cons (xk_iload_n hc xd_54_103 rfl) <|
    xl_cons (xk_imul hc xd_54_104) <|
    xl_cons (xk_callV (Y := xm_y42) ho rfl (by decide) ⟨by decide, by decide⟩ xl_202 hc xd_54_105 rfl (b' := 2) rfl xm_nd42 (T := xm_T9) (N := 25) rfl xl_225 xl_226 xl_227) <|
    xl_cons (xk_iastore hc xd_54_108) <|
    xl_cons (xk_aload_n hc xd_54_109 rfl) <|
    xl_cons (xk_bipush hc xd_54_110 (by decide)) <|
    xl_cons (xk_callV (Y := xm_y40) ho rfl (by decide) ⟨by decide, by decide⟩ xl_202 hc xd_54_112 rfl (b' := 1) rfl xm_nd40 (T := xm_T9) (N := 25) rfl xl_222 xl_223 xl_224) <|
    xl_cons (xk_iconst hc xd_54_115 (by decide)) <|
    xl_cons (xk_istore_n hc xd_54_116 hm rfl (by decide)) <|
    xl_cons (xk_iconst hc xd_54_117 (by decide)) <|
    xl_cons (xk_istore hc xd_54_118 hm rfl (by decide)) <|
    xl_cons (xk_iload hc xd_54_120 rfl) <|
    xl_cons (xk_ifCond hc xd_54_122 (by decide)) <|
    xl_cons (xk_aload_n hc xd_54_125 rfl) <|
    xl_cons (xk_getfield (C := xm_C9) (T := xm_T9) (N := 25) hc xd_54_126 ho rfl (by decide) xm_u9 xl_207) <|
    xl_cons (xk_iconst hc xd_54_129 (by decide)) <|
    xl_cons (xk_if_icmp hc xd_54_130 (by decide)) <|
    xl_cons (xk_aload_n hc xd_54_133 rfl) <|
    xl_cons (xk_callV (Y := xm_y36) ho rfl (by decide) ⟨by decide, by decide⟩ xl_202 hc xd_54_134 rfl (b' := 0) rfl xm_nd36 (T := xm_T9) (N := 25) rfl xl_208 xl_209 xl_210) <|
    xl_cons (xk_pop hc xd_54_137) (xl_nil)
set_option maxRecDepth 100000 in
theorem xo_54_2 : ∀ e ∈ ([(138, 1, .iload_n 3, 3, 0, .null, [], none),
  (139, 2, .bipush 8, 0, 0, .int 8, [], none),
  (141, 3, .if_icmp .ne 14, 155, 0, .null, [], none),
  (144, 1, .aload_n 0, 0, 0, .null, [], none),
  (145, 1, .aload_n 0, 0, 0, .null, [], none),
  (146, 3, .getfield 82, 9, 18, .null, [], none),
  (149, 3, .invokevirtual 92, 39, 2, .retAddr 0, [], none),
  (152, 3, .goto (-32), 120, 0, .null, [], none),
  (155, 1, .aload_n 0, 0, 0, .null, [], none),
  (156, 2, .bipush 8, 0, 0, .int 8, [], none),
  (158, 1, .iload_n 1, 1, 0, .null, [], none),
  (159, 1, .imul, 0, 0, .null, [], none),
  (160, 1, .iload_n 3, 3, 0, .null, [], none),
  (161, 1, .iadd, 0, 0, .null, [], none),
  (162, 3, .invokevirtual 146, 53, 2, .retAddr 0, [], none),
  (165, 3, .iinc 3 1, 3, 0, .int 1, [], none),
  (168, 1, .aload_n 0, 0, 0, .null, [], none),
  (169, 3, .getfield 85, 9, 19, .null, [], none),
  (172, 1, .iconst (-1), 0, 0, .int (-1), [], none),
  (173, 3, .if_icmp .ne 16, 189, 0, .null, [], none),
  (176, 1, .aload_n 0, 0, 0, .null, [], none),
  (177, 3, .invokevirtual 88, 36, 1, .retAddr 0, [], none),
  (180, 2, .bipush 44, 0, 0, .int 44, [], none),
  (182, 3, .if_icmp .ne 7, 189, 0, .null, [], none),
  (185, 1, .iconst 1, 0, 0, .int 1, [], none),
  (186, 3, .goto 4, 190, 0, .null, [], none),
  (189, 1, .iconst 0, 0, 0, .int 0, [], none),
  (190, 2, .istore 4, 4, 0, .null, [], none),
  (192, 2, .iload 4, 4, 0, .null, [], none),
  (194, 3, .ifCond .eq (-74), 120, 0, .null, [], none),
  (197, 1, .aload_n 0, 0, 0, .null, [], none),
  (198, 1, .dup, 0, 0, .null, [], none),
  (199, 3, .getfield 82, 9, 18, .null, [], none),
  (202, 1, .iconst 1, 0, 0, .int 1, [], none),
  (203, 1, .iadd, 0, 0, .null, [], none),
  (204, 3, .putfield 82, 9, 18, .null, [], none),
  (207, 3, .goto (-87), 120, 0, .null, [], none),
  (210, 1, .aload_n 0, 0, 0, .null, [], none),
  (211, 2, .bipush 41, 0, 0, .int 41, [], none),
  (213, 3, .invokevirtual 110, 40, 2, .retAddr 0, [], none)] : List xr_E), xr_sd xm_P 54 e := by
  have hc : xp_cd xm_P 54 = prog_12_method_25_code := rfl
  have ho : xp_own xm_P 54 = "ExchangeTextModel" := rfl
  have hm : xp_ml xm_P 54 = 5 := rfl
  exact xl_cons (xk_iload_n hc xd_54_138 rfl) <|
    xl_cons (xk_bipush hc xd_54_139 (by decide)) <|
    xl_cons (xk_if_icmp hc xd_54_141 (by decide)) <|
    xl_cons (xk_aload_n hc xd_54_144 rfl) <|
    xl_cons (xk_aload_n hc xd_54_145 rfl) <|
    xl_cons (xk_getfield (C := xm_C9) (T := xm_T9) (N := 25) hc xd_54_146 ho rfl (by decide) xm_u9 xl_206) <|
    xl_cons (xk_callV (Y := xm_y39) ho rfl (by decide) ⟨by decide, by decide⟩ xl_202 hc xd_54_149 rfl (b' := 1) rfl xm_nd39 (T := xm_T9) (N := 25) rfl xl_211 xl_212 xl_213) <|
    xl_cons (xk_goto hc xd_54_152 (by decide)) <|
    xl_cons (xk_aload_n hc xd_54_155 rfl) <|
    xl_cons (xk_bipush hc xd_54_156 (by decide)) <|
    xl_cons (xk_iload_n hc xd_54_158 rfl) <|
    xl_cons (xk_imul hc xd_54_159) <|
    xl_cons (xk_iload_n hc xd_54_160 rfl) <|
    xl_cons (xk_iadd hc xd_54_161) <|
    xl_cons (xk_callV (Y := xm_y53) ho rfl (by decide) ⟨by decide, by decide⟩ xl_202 hc xd_54_162 rfl (b' := 1) rfl xm_nd53 (T := xm_T9) (N := 25) rfl xl_252 xl_253 xl_254) <|
    xl_cons (xk_iinc hc xd_54_165 hm rfl (by decide) (by decide)) <|
    xl_cons (xk_aload_n hc xd_54_168 rfl) <|
    xl_cons (xk_getfield (C := xm_C9) (T := xm_T9) (N := 25) hc xd_54_169 ho rfl (by decide) xm_u9 xl_207) <|
    xl_cons (xk_iconst hc xd_54_172 (by decide)) <|
    xl_cons (xk_if_icmp hc xd_54_173 (by decide)) <|
    xl_cons (xk_aload_n hc xd_54_176 rfl) <|
    xl_cons (xk_callV (Y := xm_y36) ho rfl (by decide) ⟨by decide, by decide⟩ xl_202 hc xd_54_177 rfl (b' := 0) rfl xm_nd36 (T := xm_T9) (N := 25) rfl xl_208 xl_209 xl_210) <|
    xl_cons (xk_bipush hc xd_54_180 (by decide)) <|
    xl_cons (xk_if_icmp hc xd_54_182 (by decide)) <|
    xl_cons (xk_iconst hc xd_54_185 (by decide)) <|
    xl_cons (xk_goto hc xd_54_186 (by decide)) <|
    xl_cons (xk_iconst hc xd_54_189 (by decide)) <|
    xl_cons (xk_istore hc xd_54_190 hm rfl (by decide)) <|
    xl_cons (xk_iload hc xd_54_192 rfl) <|
    xl_cons (xk_ifCond hc xd_54_194 (by decide)) <|
    xl_cons (xk_aload_n hc xd_54_197 rfl) <|
    xl_cons (xk_dup hc xd_54_198) <|
    xl_cons (xk_getfield (C := xm_C9) (T := xm_T9) (N := 25) hc xd_54_199 ho rfl (by decide) xm_u9 xl_206) <|
    xl_cons (xk_iconst hc xd_54_202 (by decide)) <|
    xl_cons (xk_iadd hc xd_54_203) <|
    xl_cons (xk_putfield (C := xm_C9) (T := xm_T9) (N := 25) (ty := xm_ty9) hc xd_54_204 ho rfl (by decide) xm_u9 xm_tk9 rfl xm_nm9 xl_206 rfl) <|
    xl_cons (xk_goto hc xd_54_207 (by decide)) <|
    xl_cons (xk_aload_n hc xd_54_210 rfl) <|
    xl_cons (xk_bipush hc xd_54_211 (by decide)) <|
    xl_cons (xk_callV (Y := xm_y40) ho rfl (by decide) ⟨by decide, by decide⟩ xl_202 hc xd_54_213 rfl (b' := 1) rfl xm_nd40 (T := xm_T9) (N := 25) rfl xl_222 xl_223 xl_224) (xl_nil)
set_option maxRecDepth 100000 in
theorem xo_54_3 : ∀ e ∈ ([(216, 1, .aload_n 0, 0, 0, .null, [], none),
  (217, 2, .bipush 59, 0, 0, .int 59, [], none),
  (219, 3, .invokevirtual 110, 40, 2, .retAddr 0, [], none),
  (222, 1, .aload_n 0, 0, 0, .null, [], none),
  (223, 3, .getfield 47, 9, 14, .null, [], none),
  (226, 1, .iload_n 1, 1, 0, .null, [], none),
  (227, 1, .iload_n 3, 3, 0, .null, [], none),
  (228, 1, .iastore, 0, 0, .null, [], none),
  (229, 1, .aload_n 0, 0, 0, .null, [], none),
  (230, 3, .getfield 35, 9, 10, .null, [], none),
  (233, 1, .iconst 1, 0, 0, .int 1, [], none),
  (234, 1, .dup2, 0, 0, .null, [], none),
  (235, 1, .iaload, 0, 0, .null, [], none),
  (236, 1, .iconst 1, 0, 0, .int 1, [], none),
  (237, 1, .iadd, 0, 0, .null, [], none),
  (238, 1, .iastore, 0, 0, .null, [], none),
  (239, 1, .return_, 0, 0, .null, [], none)] : List xr_E), xr_sd xm_P 54 e := by
  have hc : xp_cd xm_P 54 = prog_12_method_25_code := rfl
  have ho : xp_own xm_P 54 = "ExchangeTextModel" := rfl
  have hm : xp_ml xm_P 54 = 5 := rfl
  exact xl_cons (xk_aload_n hc xd_54_216 rfl) <|
    xl_cons (xk_bipush hc xd_54_217 (by decide)) <|
    xl_cons (xk_callV (Y := xm_y40) ho rfl (by decide) ⟨by decide, by decide⟩ xl_202 hc xd_54_219 rfl (b' := 1) rfl xm_nd40 (T := xm_T9) (N := 25) rfl xl_222 xl_223 xl_224) <|
    xl_cons (xk_aload_n hc xd_54_222 rfl) <|
    xl_cons (xk_getfield (C := xm_C9) (T := xm_T9) (N := 25) hc xd_54_223 ho rfl (by decide) xm_u9 xl_191) <|
    xl_cons (xk_iload_n hc xd_54_226 rfl) <|
    xl_cons (xk_iload_n hc xd_54_227 rfl) <|
    xl_cons (xk_iastore hc xd_54_228) <|
    xl_cons (xk_aload_n hc xd_54_229 rfl) <|
    xl_cons (xk_getfield (C := xm_C9) (T := xm_T9) (N := 25) hc xd_54_230 ho rfl (by decide) xm_u9 xl_187) <|
    xl_cons (xk_iconst hc xd_54_233 (by decide)) <|
    xl_cons (xk_dup2 hc xd_54_234) <|
    xl_cons (xk_iaload hc xd_54_235) <|
    xl_cons (xk_iconst hc xd_54_236 (by decide)) <|
    xl_cons (xk_iadd hc xd_54_237) <|
    xl_cons (xk_iastore hc xd_54_238) <|
    xl_cons (xk_return_ hc xd_54_239) (xl_nil)
theorem xo_54 : ∀ e ∈ xm_i54, xr_sd xm_P 54 e := xl_app xo_54_0 (xl_app xo_54_1 (xl_app xo_54_2 (xo_54_3)))
set_option maxRecDepth 100000 in
theorem xo_55_0 : ∀ e ∈ ([(0, 1, .iconst 0, 0, 0, .int 0, [], none),
  (1, 1, .istore_n 2, 2, 0, .null, [], none),
  (2, 2, .bipush 8, 0, 0, .int 8, [], none),
  (4, 1, .iload_n 1, 1, 0, .null, [], none),
  (5, 1, .imul, 0, 0, .null, [], none),
  (6, 1, .istore_n 3, 3, 0, .null, [], none),
  (7, 1, .iload_n 3, 3, 0, .null, [], none),
  (8, 2, .bipush 8, 0, 0, .int 8, [], none),
  (10, 1, .iload_n 1, 1, 0, .null, [], none),
  (11, 1, .imul, 0, 0, .null, [], none),
  (12, 1, .aload_n 0, 0, 0, .null, [], none),
  (13, 3, .getfield 47, 9, 14, .null, [], none),
  (16, 1, .iload_n 1, 1, 0, .null, [], none),
  (17, 1, .iaload, 0, 0, .null, [], none),
  (18, 1, .iadd, 0, 0, .null, [], none),
  (19, 3, .if_icmp .ge 105, 124, 0, .null, [], none),
  (22, 1, .aload_n 0, 0, 0, .null, [], none),
  (23, 3, .getfield 50, 9, 15, .null, [], none),
  (26, 1, .iload_n 3, 3, 0, .null, [], none),
  (27, 1, .iaload, 0, 0, .null, [], none),
  (28, 1, .iconst 2, 0, 0, .int 2, [], none),
  (29, 3, .if_icmp .ne 28, 57, 0, .null, [], none),
  (32, 1, .iload_n 2, 2, 0, .null, [], none),
  (33, 3, .ifCond .ne 18, 51, 0, .null, [], none),
  (36, 1, .aload_n 0, 0, 0, .null, [], none),
  (37, 1, .iconst 1, 0, 0, .int 1, [], none),
  (38, 1, .aload_n 0, 0, 0, .null, [], none),
  (39, 3, .getfield 53, 9, 16, .null, [], none),
  (42, 1, .iload_n 3, 3, 0, .null, [], none),
  (43, 1, .iaload, 0, 0, .null, [], none),
  (44, 3, .invokevirtual 143, 50, 3, .retAddr 0, [], none),
  (47, 1, .iconst (-1), 0, 0, .int (-1), [], none),
  (48, 3, .if_icmp .ne 7, 55, 0, .null, [], none),
  (51, 1, .iconst 1, 0, 0, .int 1, [], none),
  (52, 3, .goto 4, 56, 0, .null, [], none),
  (55, 1, .iconst 0, 0, 0, .int 0, [], none),
  (56, 1, .istore_n 2, 2, 0, .null, [], none),
  (57, 1, .iconst 0, 0, 0, .int 0, [], none),
  (58, 2, .istore 4, 4, 0, .null, [], none),
  (60, 2, .iload 4, 4, 0, .null, [], none)] : List xr_E), xr_sd xm_P 55 e := by
  have hc : xp_cd xm_P 55 = prog_12_method_26_code := rfl
  have ho : xp_own xm_P 55 = "ExchangeTextModel" := rfl
  have hm : xp_ml xm_P 55 = 5 := rfl
  exact xl_cons (xk_iconst hc xd_55_0 (by decide)) <|
    xl_cons (xk_istore_n hc xd_55_1 hm rfl (by decide)) <|
    xl_cons (xk_bipush hc xd_55_2 (by decide)) <|
    xl_cons (xk_iload_n hc xd_55_4 rfl) <|
    xl_cons (xk_imul hc xd_55_5) <|
    xl_cons (xk_istore_n hc xd_55_6 hm rfl (by decide)) <|
    xl_cons (xk_iload_n hc xd_55_7 rfl) <|
    xl_cons (xk_bipush hc xd_55_8 (by decide)) <|
    xl_cons (xk_iload_n hc xd_55_10 rfl) <|
    xl_cons (xk_imul hc xd_55_11) <|
    xl_cons (xk_aload_n hc xd_55_12 rfl) <|
    xl_cons (xk_getfield (C := xm_C9) (T := xm_T9) (N := 25) hc xd_55_13 ho rfl (by decide) xm_u9 xl_191) <|
    xl_cons (xk_iload_n hc xd_55_16 rfl) <|
    xl_cons (xk_iaload hc xd_55_17) <|
    xl_cons (xk_iadd hc xd_55_18) <|
    xl_cons (xk_if_icmp hc xd_55_19 (by decide)) <|
    xl_cons (xk_aload_n hc xd_55_22 rfl) <|
    xl_cons (xk_getfield (C := xm_C9) (T := xm_T9) (N := 25) hc xd_55_23 ho rfl (by decide) xm_u9 xl_192) <|
    xl_cons (xk_iload_n hc xd_55_26 rfl) <|
    xl_cons (xk_iaload hc xd_55_27) <|
    xl_cons (xk_iconst hc xd_55_28 (by decide)) <|
    xl_cons (xk_if_icmp hc xd_55_29 (by decide)) <|
    xl_cons (xk_iload_n hc xd_55_32 rfl) <|
    xl_cons (xk_ifCond hc xd_55_33 (by decide)) <|
    xl_cons (xk_aload_n hc xd_55_36 rfl) <|
    xl_cons (xk_iconst hc xd_55_37 (by decide)) <|
    xl_cons (xk_aload_n hc xd_55_38 rfl) <|
    xl_cons (xk_getfield (C := xm_C9) (T := xm_T9) (N := 25) hc xd_55_39 ho rfl (by decide) xm_u9 xl_193) <|
    xl_cons (xk_iload_n hc xd_55_42 rfl) <|
    xl_cons (xk_iaload hc xd_55_43) <|
    xl_cons (xk_callV (Y := xm_y50) ho rfl (by decide) ⟨by decide, by decide⟩ xl_202 hc xd_55_44 rfl (b' := 2) rfl xm_nd50 (T := xm_T9) (N := 25) rfl xl_249 xl_250 xl_251) <|
    xl_cons (xk_iconst hc xd_55_47 (by decide)) <|
    xl_cons (xk_if_icmp hc xd_55_48 (by decide)) <|
    xl_cons (xk_iconst hc xd_55_51 (by decide)) <|
    xl_cons (xk_goto hc xd_55_52 (by decide)) <|
    xl_cons (xk_iconst hc xd_55_55 (by decide)) <|
    xl_cons (xk_istore_n hc xd_55_56 hm rfl (by decide)) <|
    xl_cons (xk_iconst hc xd_55_57 (by decide)) <|
    xl_cons (xk_istore hc xd_55_58 hm rfl (by decide)) <|
    xl_cons (xk_iload hc xd_55_60 rfl) (xl_nil)
set_option maxRecDepth 100000 in
theorem xo_55_1 : ∀ e ∈ ([(62, 1, .aload_n 0, 0, 0, .null, [], none),
  (63, 3, .getfield 53, 9, 16, .null, [], none),
  (66, 1, .iload_n 3, 3, 0, .null, [], none),
  (67, 1, .iaload, 0, 0, .null, [], none),
  (68, 3, .if_icmp .ge 50, 118, 0, .null, [], none),
  (71, 1, .aload_n 0, 0, 0, .null, [], none),
  (72, 3, .getfield 50, 9, 15, .null, [], none),
  (75, 1, .iload_n 3, 3, 0, .null, [], none),
  (76, 1, .iaload, 0, 0, .null, [], none),
  (77, 1, .iconst 4, 0, 0, .int 4, [], none),
  (78, 3, .if_icmp .ne 40, 118, 0, .null, [], none),
  (81, 1, .iload_n 2, 2, 0, .null, [], none),
  (82, 3, .ifCond .ne 24, 106, 0, .null, [], none),
  (85, 1, .aload_n 0, 0, 0, .null, [], none),
  (86, 1, .iconst 1, 0, 0, .int 1, [], none),
  (87, 1, .aload_n 0, 0, 0, .null, [], none),
  (88, 3, .getfield 56, 9, 17, .null, [], none),
  (91, 2, .bipush 20, 0, 0, .int 20, [], none),
  (93, 1, .iload_n 3, 3, 0, .null, [], none),
  (94, 1, .imul, 0, 0, .null, [], none),
  (95, 2, .iload 4, 4, 0, .null, [], none),
  (97, 1, .iadd, 0, 0, .null, [], none),
  (98, 1, .iaload, 0, 0, .null, [], none),
  (99, 3, .invokevirtual 143, 50, 3, .retAddr 0, [], none),
  (102, 1, .iconst (-1), 0, 0, .int (-1), [], none),
  (103, 3, .if_icmp .ne 7, 110, 0, .null, [], none),
  (106, 1, .iconst 1, 0, 0, .int 1, [], none),
  (107, 3, .goto 4, 111, 0, .null, [], none),
  (110, 1, .iconst 0, 0, 0, .int 0, [], none),
  (111, 1, .istore_n 2, 2, 0, .null, [], none),
  (112, 3, .iinc 4 1, 4, 0, .int 1, [], none),
  (115, 3, .goto (-55), 60, 0, .null, [], none),
  (118, 3, .iinc 3 1, 3, 0, .int 1, [], none),
  (121, 3, .goto (-114), 7, 0, .null, [], none),
  (124, 1, .iload_n 2, 2, 0, .null, [], none),
  (125, 1, .ireturn, 0, 0, .null, [], none)] : List xr_E), xr_sd xm_P 55 e := by
  have hc : xp_cd xm_P 55 = prog_12_method_26_code := rfl
  have ho : xp_own xm_P 55 = "ExchangeTextModel" := rfl
  have hm : xp_ml xm_P 55 = 5 := rfl
  exact xl_cons (xk_aload_n hc xd_55_62 rfl) <|
    xl_cons (xk_getfield (C := xm_C9) (T := xm_T9) (N := 25) hc xd_55_63 ho rfl (by decide) xm_u9 xl_193) <|
    xl_cons (xk_iload_n hc xd_55_66 rfl) <|
    xl_cons (xk_iaload hc xd_55_67) <|
    xl_cons (xk_if_icmp hc xd_55_68 (by decide)) <|
    xl_cons (xk_aload_n hc xd_55_71 rfl) <|
    xl_cons (xk_getfield (C := xm_C9) (T := xm_T9) (N := 25) hc xd_55_72 ho rfl (by decide) xm_u9 xl_192) <|
    xl_cons (xk_iload_n hc xd_55_75 rfl) <|
    xl_cons (xk_iaload hc xd_55_76) <|
    xl_cons (xk_iconst hc xd_55_77 (by decide)) <|
    xl_cons (xk_if_icmp hc xd_55_78 (by decide)) <|
    xl_cons (xk_iload_n hc xd_55_81 rfl) <|
    xl_cons (xk_ifCond hc xd_55_82 (by decide)) <|
    xl_cons (xk_aload_n hc xd_55_85 rfl) <|
    xl_cons (xk_iconst hc xd_55_86 (by decide)) <|
    xl_cons (xk_aload_n hc xd_55_87 rfl) <|
    xl_cons (xk_getfield (C := xm_C9) (T := xm_T9) (N := 25) hc xd_55_88 ho rfl (by decide) xm_u9 xl_194) <|
    xl_cons (xk_bipush hc xd_55_91 (by decide)) <|
    xl_cons (xk_iload_n hc xd_55_93 rfl) <|
    xl_cons (xk_imul hc xd_55_94) <|
    xl_cons (xk_iload hc xd_55_95 rfl) <|
    xl_cons (xk_iadd hc xd_55_97) <|
    xl_cons (xk_iaload hc xd_55_98) <|
    xl_cons (xk_callV (Y := xm_y50) ho rfl (by decide) ⟨by decide, by decide⟩ xl_202 hc xd_55_99 rfl (b' := 2) rfl xm_nd50 (T := xm_T9) (N := 25) rfl xl_249 xl_250 xl_251) <|
    xl_cons (xk_iconst hc xd_55_102 (by decide)) <|
    xl_cons (xk_if_icmp hc xd_55_103 (by decide)) <|
    xl_cons (xk_iconst hc xd_55_106 (by decide)) <|
    xl_cons (xk_goto hc xd_55_107 (by decide)) <|
    xl_cons (xk_iconst hc xd_55_110 (by decide)) <|
    xl_cons (xk_istore_n hc xd_55_111 hm rfl (by decide)) <|
    xl_cons (xk_iinc hc xd_55_112 hm rfl (by decide) (by decide)) <|
    xl_cons (xk_goto hc xd_55_115 (by decide)) <|
    xl_cons (xk_iinc hc xd_55_118 hm rfl (by decide) (by decide)) <|
    xl_cons (xk_goto hc xd_55_121 (by decide)) <|
    xl_cons (xk_iload_n hc xd_55_124 rfl) <|
    xl_cons (xk_ireturn hc xd_55_125) (xl_nil)
theorem xo_55 : ∀ e ∈ xm_i55, xr_sd xm_P 55 e := xl_app xo_55_0 (xo_55_1)
set_option maxRecDepth 100000 in
theorem xo_56_0 : ∀ e ∈ ([(0, 1, .aload_n 0, 0, 0, .null, [], none),
  (1, 3, .getfield 38, 9, 11, .null, [], none),
  (4, 1, .iload_n 1, 1, 0, .null, [], none),
  (5, 1, .aload_n 0, 0, 0, .null, [], none),
  (6, 3, .getfield 38, 9, 11, .null, [], none),
  (9, 1, .iload_n 2, 2, 0, .null, [], none),
  (10, 1, .iaload, 0, 0, .null, [], none),
  (11, 1, .iastore, 0, 0, .null, [], none),
  (12, 1, .aload_n 0, 0, 0, .null, [], none),
  (13, 3, .getfield 41, 9, 12, .null, [], none),
  (16, 1, .iload_n 1, 1, 0, .null, [], none),
  (17, 1, .aload_n 0, 0, 0, .null, [], none),
  (18, 3, .getfield 41, 9, 12, .null, [], none),
  (21, 1, .iload_n 2, 2, 0, .null, [], none),
  (22, 1, .iaload, 0, 0, .null, [], none),
  (23, 1, .iastore, 0, 0, .null, [], none),
  (24, 1, .aload_n 0, 0, 0, .null, [], none),
  (25, 3, .getfield 47, 9, 14, .null, [], none),
  (28, 1, .iload_n 1, 1, 0, .null, [], none),
  (29, 1, .aload_n 0, 0, 0, .null, [], none),
  (30, 3, .getfield 47, 9, 14, .null, [], none),
  (33, 1, .iload_n 2, 2, 0, .null, [], none),
  (34, 1, .iaload, 0, 0, .null, [], none),
  (35, 1, .iastore, 0, 0, .null, [], none),
  (36, 1, .iconst 0, 0, 0, .int 0, [], none),
  (37, 1, .istore_n 3, 3, 0, .null, [], none),
  (38, 1, .iload_n 3, 3, 0, .null, [], none),
  (39, 2, .bipush 8, 0, 0, .int 8, [], none),
  (41, 3, .if_icmp .ge 75, 116, 0, .null, [], none),
  (44, 1, .aload_n 0, 0, 0, .null, [], none),
  (45, 3, .getfield 44, 9, 13, .null, [], none),
  (48, 2, .bipush 8, 0, 0, .int 8, [], none),
  (50, 1, .iload_n 1, 1, 0, .null, [], none),
  (51, 1, .imul, 0, 0, .null, [], none),
  (52, 1, .iload_n 3, 3, 0, .null, [], none),
  (53, 1, .iadd, 0, 0, .null, [], none),
  (54, 1, .aload_n 0, 0, 0, .null, [], none),
  (55, 3, .getfield 44, 9, 13, .null, [], none),
  (58, 2, .bipush 8, 0, 0, .int 8, [], none),
  (60, 1, .iload_n 2, 2, 0, .null, [], none)] : List xr_E), xr_sd xm_P 56 e := by
  have hc : xp_cd xm_P 56 = prog_12_method_27_code := rfl
  have ho : xp_own xm_P 56 = "ExchangeTextModel" := rfl
  have hm : xp_ml xm_P 56 = 4 := rfl
  exact xl_cons (xk_aload_n hc xd_56_0 rfl) <|
    xl_cons (xk_getfield (C := xm_C9) (T := xm_T9) (N := 25) hc xd_56_1 ho rfl (by decide) xm_u9 xl_188) <|
    xl_cons (xk_iload_n hc xd_56_4 rfl) <|
    xl_cons (xk_aload_n hc xd_56_5 rfl) <|
    xl_cons (xk_getfield (C := xm_C9) (T := xm_T9) (N := 25) hc xd_56_6 ho rfl (by decide) xm_u9 xl_188) <|
    xl_cons (xk_iload_n hc xd_56_9 rfl) <|
    xl_cons (xk_iaload hc xd_56_10) <|
    xl_cons (xk_iastore hc xd_56_11) <|
    xl_cons (xk_aload_n hc xd_56_12 rfl) <|
    xl_cons (xk_getfield (C := xm_C9) (T := xm_T9) (N := 25) hc xd_56_13 ho rfl (by decide) xm_u9 xl_189) <|
    xl_cons (xk_iload_n hc xd_56_16 rfl) <|
    xl_cons (xk_aload_n hc xd_56_17 rfl) <|
    xl_cons (xk_getfield (C := xm_C9) (T := xm_T9) (N := 25) hc xd_56_18 ho rfl (by decide) xm_u9 xl_189) <|
    xl_cons (xk_iload_n hc xd_56_21 rfl) <|
    xl_cons (xk_iaload hc xd_56_22) <|
    xl_cons (xk_iastore hc xd_56_23) <|
    xl_cons (xk_aload_n hc xd_56_24 rfl) <|
    xl_cons (xk_getfield (C := xm_C9) (T := xm_T9) (N := 25) hc xd_56_25 ho rfl (by decide) xm_u9 xl_191) <|
    xl_cons (xk_iload_n hc xd_56_28 rfl) <|
    xl_cons (xk_aload_n hc xd_56_29 rfl) <|
    xl_cons (xk_getfield (C := xm_C9) (T := xm_T9) (N := 25) hc xd_56_30 ho rfl (by decide) xm_u9 xl_191) <|
    xl_cons (xk_iload_n hc xd_56_33 rfl) <|
    xl_cons (xk_iaload hc xd_56_34) <|
    xl_cons (xk_iastore hc xd_56_35) <|
    xl_cons (xk_iconst hc xd_56_36 (by decide)) <|
    xl_cons (xk_istore_n hc xd_56_37 hm rfl (by decide)) <|
    xl_cons (xk_iload_n hc xd_56_38 rfl) <|
    xl_cons (xk_bipush hc xd_56_39 (by decide)) <|
    xl_cons (xk_if_icmp hc xd_56_41 (by decide)) <|
    xl_cons (xk_aload_n hc xd_56_44 rfl) <|
    xl_cons (xk_getfield (C := xm_C9) (T := xm_T9) (N := 25) hc xd_56_45 ho rfl (by decide) xm_u9 xl_190) <|
    xl_cons (xk_bipush hc xd_56_48 (by decide)) <|
    xl_cons (xk_iload_n hc xd_56_50 rfl) <|
    xl_cons (xk_imul hc xd_56_51) <|
    xl_cons (xk_iload_n hc xd_56_52 rfl) <|
    xl_cons (xk_iadd hc xd_56_53) <|
    xl_cons (xk_aload_n hc xd_56_54 rfl) <|
    xl_cons (xk_getfield (C := xm_C9) (T := xm_T9) (N := 25) hc xd_56_55 ho rfl (by decide) xm_u9 xl_190) <|
    xl_cons (xk_bipush hc xd_56_58 (by decide)) <|
    xl_cons (xk_iload_n hc xd_56_60 rfl) (xl_nil)
set_option maxRecDepth 100000 in
theorem xo_56_1 : ∀ e ∈ ([(61, 1, .imul, 0, 0, .null, [], none),
  (62, 1, .iload_n 3, 3, 0, .null, [], none),
  (63, 1, .iadd, 0, 0, .null, [], none),
  (64, 1, .iaload, 0, 0, .null, [], none),
  (65, 1, .iastore, 0, 0, .null, [], none),
  (66, 1, .aload_n 0, 0, 0, .null, [], none),
  (67, 3, .getfield 50, 9, 15, .null, [], none),
  (70, 2, .bipush 8, 0, 0, .int 8, [], none),
  (72, 1, .iload_n 1, 1, 0, .null, [], none),
  (73, 1, .imul, 0, 0, .null, [], none),
  (74, 1, .iload_n 3, 3, 0, .null, [], none),
  (75, 1, .iadd, 0, 0, .null, [], none),
  (76, 1, .aload_n 0, 0, 0, .null, [], none),
  (77, 3, .getfield 50, 9, 15, .null, [], none),
  (80, 2, .bipush 8, 0, 0, .int 8, [], none),
  (82, 1, .iload_n 2, 2, 0, .null, [], none),
  (83, 1, .imul, 0, 0, .null, [], none),
  (84, 1, .iload_n 3, 3, 0, .null, [], none),
  (85, 1, .iadd, 0, 0, .null, [], none),
  (86, 1, .iaload, 0, 0, .null, [], none),
  (87, 1, .iastore, 0, 0, .null, [], none),
  (88, 1, .aload_n 0, 0, 0, .null, [], none),
  (89, 3, .getfield 53, 9, 16, .null, [], none),
  (92, 2, .bipush 8, 0, 0, .int 8, [], none),
  (94, 1, .iload_n 1, 1, 0, .null, [], none),
  (95, 1, .imul, 0, 0, .null, [], none),
  (96, 1, .iload_n 3, 3, 0, .null, [], none),
  (97, 1, .iadd, 0, 0, .null, [], none),
  (98, 1, .aload_n 0, 0, 0, .null, [], none),
  (99, 3, .getfield 53, 9, 16, .null, [], none),
  (102, 2, .bipush 8, 0, 0, .int 8, [], none),
  (104, 1, .iload_n 2, 2, 0, .null, [], none),
  (105, 1, .imul, 0, 0, .null, [], none),
  (106, 1, .iload_n 3, 3, 0, .null, [], none),
  (107, 1, .iadd, 0, 0, .null, [], none),
  (108, 1, .iaload, 0, 0, .null, [], none),
  (109, 1, .iastore, 0, 0, .null, [], none),
  (110, 3, .iinc 3 1, 3, 0, .int 1, [], none),
  (113, 3, .goto (-75), 38, 0, .null, [], none),
  (116, 1, .iconst 0, 0, 0, .int 0, [], none)] : List xr_E), xr_sd xm_P 56 e := by
  have hc : xp_cd xm_P 56 = prog_12_method_27_code := rfl
  have ho : xp_own xm_P 56 = "ExchangeTextModel" := rfl
  have hm : xp_ml xm_P 56 = 4 := rfl
  exact xl_cons (xk_imul hc xd_56_61) <|
    xl_cons (xk_iload_n hc xd_56_62 rfl) <|
    xl_cons (xk_iadd hc xd_56_63) <|
    xl_cons (xk_iaload hc xd_56_64) <|
    xl_cons (xk_iastore hc xd_56_65) <|
    xl_cons (xk_aload_n hc xd_56_66 rfl) <|
    xl_cons (xk_getfield (C := xm_C9) (T := xm_T9) (N := 25) hc xd_56_67 ho rfl (by decide) xm_u9 xl_192) <|
    xl_cons (xk_bipush hc xd_56_70 (by decide)) <|
    xl_cons (xk_iload_n hc xd_56_72 rfl) <|
    xl_cons (xk_imul hc xd_56_73) <|
    xl_cons (xk_iload_n hc xd_56_74 rfl) <|
    xl_cons (xk_iadd hc xd_56_75) <|
    xl_cons (xk_aload_n hc xd_56_76 rfl) <|
    xl_cons (xk_getfield (C := xm_C9) (T := xm_T9) (N := 25) hc xd_56_77 ho rfl (by decide) xm_u9 xl_192) <|
    xl_cons (xk_bipush hc xd_56_80 (by decide)) <|
    xl_cons (xk_iload_n hc xd_56_82 rfl) <|
    xl_cons (xk_imul hc xd_56_83) <|
    xl_cons (xk_iload_n hc xd_56_84 rfl) <|
    xl_cons (xk_iadd hc xd_56_85) <|
    xl_cons (xk_iaload hc xd_56_86) <|
    xl_cons (xk_iastore hc xd_56_87) <|
    xl_cons (xk_aload_n hc xd_56_88 rfl) <|
    xl_cons (xk_getfield (C := xm_C9) (T := xm_T9) (N := 25) hc xd_56_89 ho rfl (by decide) xm_u9 xl_193) <|
    xl_cons (xk_bipush hc xd_56_92 (by decide)) <|
    xl_cons (xk_iload_n hc xd_56_94 rfl) <|
    xl_cons (xk_imul hc xd_56_95) <|
    xl_cons (xk_iload_n hc xd_56_96 rfl) <|
    xl_cons (xk_iadd hc xd_56_97) <|
    xl_cons (xk_aload_n hc xd_56_98 rfl) <|
    xl_cons (xk_getfield (C := xm_C9) (T := xm_T9) (N := 25) hc xd_56_99 ho rfl (by decide) xm_u9 xl_193) <|
    xl_cons (xk_bipush hc xd_56_102 (by decide)) <|
    xl_cons (xk_iload_n hc xd_56_104 rfl) <|
    xl_cons (xk_imul hc xd_56_105) <|
    xl_cons (xk_iload_n hc xd_56_106 rfl) <|
    xl_cons (xk_iadd hc xd_56_107) <|
    xl_cons (xk_iaload hc xd_56_108) <|
    xl_cons (xk_iastore hc xd_56_109) <|
    xl_cons (xk_iinc hc xd_56_110 hm rfl (by decide) (by decide)) <|
    xl_cons (xk_goto hc xd_56_113 (by decide)) <|
    xl_cons (xk_iconst hc xd_56_116 (by decide)) (xl_nil)
set_option maxRecDepth 100000 in
theorem xo_56_2 : ∀ e ∈ ([(117, 1, .istore_n 3, 3, 0, .null, [], none),
  (118, 1, .iload_n 3, 3, 0, .null, [], none),
  (119, 3, .sipush 160, 0, 0, .int 160, [], none),
  (122, 3, .if_icmp .ge 33, 155, 0, .null, [], none),
  (125, 1, .aload_n 0, 0, 0, .null, [], none),
  (126, 3, .getfield 56, 9, 17, .null, [], none),
  (129, 3, .sipush 160, 0, 0, .int 160, [], none),
  (132, 1, .iload_n 1, 1, 0, .null, [], none),
  (133, 1, .imul, 0, 0, .null, [], none),
  (134, 1, .iload_n 3, 3, 0, .null, [], none),
  (135, 1, .iadd, 0, 0, .null, [], none),
  (136, 1, .aload_n 0, 0, 0, .null, [], none),
  (137, 3, .getfield 56, 9, 17, .null, [], none),
  (140, 3, .sipush 160, 0, 0, .int 160, [], none),
  (143, 1, .iload_n 2, 2, 0, .null, [], none),
  (144, 1, .imul, 0, 0, .null, [], none),
  (145, 1, .iload_n 3, 3, 0, .null, [], none),
  (146, 1, .iadd, 0, 0, .null, [], none),
  (147, 1, .iaload, 0, 0, .null, [], none),
  (148, 1, .iastore, 0, 0, .null, [], none),
  (149, 3, .iinc 3 1, 3, 0, .int 1, [], none),
  (152, 3, .goto (-34), 118, 0, .null, [], none),
  (155, 1, .return_, 0, 0, .null, [], none)] : List xr_E), xr_sd xm_P 56 e := by
  have hc : xp_cd xm_P 56 = prog_12_method_27_code := rfl
  have ho : xp_own xm_P 56 = "ExchangeTextModel" := rfl
  have hm : xp_ml xm_P 56 = 4 := rfl
  exact xl_cons (xk_istore_n hc xd_56_117 hm rfl (by decide)) <|
    xl_cons (xk_iload_n hc xd_56_118 rfl) <|
    xl_cons (xk_sipush hc xd_56_119 (by decide)) <|
    xl_cons (xk_if_icmp hc xd_56_122 (by decide)) <|
    xl_cons (xk_aload_n hc xd_56_125 rfl) <|
    xl_cons (xk_getfield (C := xm_C9) (T := xm_T9) (N := 25) hc xd_56_126 ho rfl (by decide) xm_u9 xl_194) <|
    xl_cons (xk_sipush hc xd_56_129 (by decide)) <|
    xl_cons (xk_iload_n hc xd_56_132 rfl) <|
    xl_cons (xk_imul hc xd_56_133) <|
    xl_cons (xk_iload_n hc xd_56_134 rfl) <|
    xl_cons (xk_iadd hc xd_56_135) <|
    xl_cons (xk_aload_n hc xd_56_136 rfl) <|
    xl_cons (xk_getfield (C := xm_C9) (T := xm_T9) (N := 25) hc xd_56_137 ho rfl (by decide) xm_u9 xl_194) <|
    xl_cons (xk_sipush hc xd_56_140 (by decide)) <|
    xl_cons (xk_iload_n hc xd_56_143 rfl) <|
    xl_cons (xk_imul hc xd_56_144) <|
    xl_cons (xk_iload_n hc xd_56_145 rfl) <|
    xl_cons (xk_iadd hc xd_56_146) <|
    xl_cons (xk_iaload hc xd_56_147) <|
    xl_cons (xk_iastore hc xd_56_148) <|
    xl_cons (xk_iinc hc xd_56_149 hm rfl (by decide) (by decide)) <|
    xl_cons (xk_goto hc xd_56_152 (by decide)) <|
    xl_cons (xk_return_ hc xd_56_155) (xl_nil)
theorem xo_56 : ∀ e ∈ xm_i56, xr_sd xm_P 56 e := xl_app xo_56_0 (xl_app xo_56_1 (xo_56_2))
set_option maxRecDepth 100000 in
theorem xo_57_0 : ∀ e ∈ ([(0, 1, .aload_n 0, 0, 0, .null, [], none),
  (1, 1, .iconst 0, 0, 0, .int 0, [], none),
  (2, 3, .putfield 69, 9, 0, .null, [], none),
  (5, 1, .aload_n 0, 0, 0, .null, [], none),
  (6, 1, .iconst 0, 0, 0, .int 0, [], none),
  (7, 3, .putfield 82, 9, 18, .null, [], none),
  (10, 1, .aload_n 0, 0, 0, .null, [], none),
  (11, 1, .iconst (-1), 0, 0, .int (-1), [], none),
  (12, 3, .putfield 85, 9, 19, .null, [], none),
  (15, 1, .aload_n 0, 0, 0, .null, [], none),
  (16, 3, .getfield 35, 9, 10, .null, [], none),
  (19, 1, .iconst 1, 0, 0, .int 1, [], none),
  (20, 1, .iconst 0, 0, 0, .int 0, [], none),
  (21, 1, .iastore, 0, 0, .null, [], none),
  (22, 1, .aload_n 0, 0, 0, .null, [], none),
  (23, 3, .getfield 85, 9, 19, .null, [], none),
  (26, 1, .iconst (-1), 0, 0, .int (-1), [], none),
  (27, 3, .if_icmp .ne 17, 44, 0, .null, [], none),
  (30, 1, .aload_n 0, 0, 0, .null, [], none),
  (31, 3, .invokevirtual 88, 36, 1, .retAddr 0, [], none),
  (34, 3, .ifCond .eq 10, 44, 0, .null, [], none),
  (37, 1, .aload_n 0, 0, 0, .null, [], none),
  (38, 3, .invokevirtual 149, 54, 1, .retAddr 0, [], none),
  (41, 3, .goto (-19), 22, 0, .null, [], none),
  (44, 1, .aload_n 0, 0, 0, .null, [], none),
  (45, 3, .getfield 85, 9, 19, .null, [], none),
  (48, 1, .iconst (-1), 0, 0, .int (-1), [], none),
  (49, 3, .if_icmp .eq 10, 59, 0, .null, [], none),
  (52, 1, .iconst (-1), 0, 0, .int (-1), [], none),
  (53, 1, .aload_n 0, 0, 0, .null, [], none),
  (54, 3, .getfield 85, 9, 19, .null, [], none),
  (57, 1, .isub, 0, 0, .null, [], none),
  (58, 1, .ireturn, 0, 0, .null, [], none),
  (59, 2, .bipush 40, 0, 0, .int 40, [], none),
  (61, 1, .istore_n 1, 1, 0, .null, [], none),
  (62, 1, .iload_n 1, 1, 0, .null, [], none),
  (63, 2, .bipush 40, 0, 0, .int 40, [], none),
  (65, 1, .aload_n 0, 0, 0, .null, [], none),
  (66, 3, .getfield 35, 9, 10, .null, [], none),
  (69, 1, .iconst 1, 0, 0, .int 1, [], none)] : List xr_E), xr_sd xm_P 57 e := by
  have hc : xp_cd xm_P 57 = prog_12_method_28_code := rfl
  have ho : xp_own xm_P 57 = "ExchangeTextModel" := rfl
  have hm : xp_ml xm_P 57 = 4 := rfl
  exact xl_cons (xk_aload_n hc xd_57_0 rfl) <|
    xl_cons (xk_iconst hc xd_57_1 (by decide)) <|
    xl_cons (xk_putfield (C := xm_C9) (T := xm_T9) (N := 25) (ty := xm_ty9) hc xd_57_2 ho rfl (by decide) xm_u9 xm_tk9 rfl xm_nm9 xl_199 rfl) <|
    xl_cons (xk_aload_n hc xd_57_5 rfl) <|
    xl_cons (xk_iconst hc xd_57_6 (by decide)) <|
    xl_cons (xk_putfield (C := xm_C9) (T := xm_T9) (N := 25) (ty := xm_ty9) hc xd_57_7 ho rfl (by decide) xm_u9 xm_tk9 rfl xm_nm9 xl_206 rfl) <|
    xl_cons (xk_aload_n hc xd_57_10 rfl) <|
    xl_cons (xk_iconst hc xd_57_11 (by decide)) <|
    xl_cons (xk_putfield (C := xm_C9) (T := xm_T9) (N := 25) (ty := xm_ty9) hc xd_57_12 ho rfl (by decide) xm_u9 xm_tk9 rfl xm_nm9 xl_207 rfl) <|
    xl_cons (xk_aload_n hc xd_57_15 rfl) <|
    xl_cons (xk_getfield (C := xm_C9) (T := xm_T9) (N := 25) hc xd_57_16 ho rfl (by decide) xm_u9 xl_187) <|
    xl_cons (xk_iconst hc xd_57_19 (by decide)) <|
    xl_cons (xk_iconst hc xd_57_20 (by decide)) <|
    xl_cons (xk_iastore hc xd_57_21) <|
    xl_cons (xk_aload_n hc xd_57_22 rfl) <|
    xl_cons (xk_getfield (C := xm_C9) (T := xm_T9) (N := 25) hc xd_57_23 ho rfl (by decide) xm_u9 xl_207) <|
    xl_cons (xk_iconst hc xd_57_26 (by decide)) <|
    xl_cons (xk_if_icmp hc xd_57_27 (by decide)) <|
    xl_cons (xk_aload_n hc xd_57_30 rfl) <|
    xl_cons (xk_callV (Y := xm_y36) ho rfl (by decide) ⟨by decide, by decide⟩ xl_202 hc xd_57_31 rfl (b' := 0) rfl xm_nd36 (T := xm_T9) (N := 25) rfl xl_208 xl_209 xl_210) <|
    xl_cons (xk_ifCond hc xd_57_34 (by decide)) <|
    xl_cons (xk_aload_n hc xd_57_37 rfl) <|
    xl_cons (xk_callV (Y := xm_y54) ho rfl (by decide) ⟨by decide, by decide⟩ xl_202 hc xd_57_38 rfl (b' := 0) rfl xm_nd54 (T := xm_T9) (N := 25) rfl xl_255 xl_256 xl_257) <|
    xl_cons (xk_goto hc xd_57_41 (by decide)) <|
    xl_cons (xk_aload_n hc xd_57_44 rfl) <|
    xl_cons (xk_getfield (C := xm_C9) (T := xm_T9) (N := 25) hc xd_57_45 ho rfl (by decide) xm_u9 xl_207) <|
    xl_cons (xk_iconst hc xd_57_48 (by decide)) <|
    xl_cons (xk_if_icmp hc xd_57_49 (by decide)) <|
    xl_cons (xk_iconst hc xd_57_52 (by decide)) <|
    xl_cons (xk_aload_n hc xd_57_53 rfl) <|
    xl_cons (xk_getfield (C := xm_C9) (T := xm_T9) (N := 25) hc xd_57_54 ho rfl (by decide) xm_u9 xl_207) <|
    xl_cons (xk_isub hc xd_57_57) <|
    xl_cons (xk_ireturn hc xd_57_58) <|
    xl_cons (xk_bipush hc xd_57_59 (by decide)) <|
    xl_cons (xk_istore_n hc xd_57_61 hm rfl (by decide)) <|
    xl_cons (xk_iload_n hc xd_57_62 rfl) <|
    xl_cons (xk_bipush hc xd_57_63 (by decide)) <|
    xl_cons (xk_aload_n hc xd_57_65 rfl) <|
    xl_cons (xk_getfield (C := xm_C9) (T := xm_T9) (N := 25) hc xd_57_66 ho rfl (by decide) xm_u9 xl_187) <|
    xl_cons (xk_iconst hc xd_57_69 (by decide)) (xl_nil)
set_option maxRecDepth 100000 in
theorem xo_57_1 : ∀ e ∈ ([(70, 1, .iaload, 0, 0, .null, [], none),
  (71, 1, .iadd, 0, 0, .null, [], none),
  (72, 3, .if_icmp .ge 28, 100, 0, .null, [], none),
  (75, 1, .aload_n 0, 0, 0, .null, [], none),
  (76, 1, .iload_n 1, 1, 0, .null, [], none),
  (77, 3, .invokevirtual 152, 55, 2, .retAddr 0, [], none),
  (80, 3, .ifCond .eq 14, 94, 0, .null, [], none),
  (83, 3, .sipush (-10000), 0, 0, .int (-10000), [], none),
  (86, 1, .aload_n 0, 0, 0, .null, [], none),
  (87, 3, .getfield 38, 9, 11, .null, [], none),
  (90, 1, .iload_n 1, 1, 0, .null, [], none),
  (91, 1, .iaload, 0, 0, .null, [], none),
  (92, 1, .isub, 0, 0, .null, [], none),
  (93, 1, .ireturn, 0, 0, .null, [], none),
  (94, 3, .iinc 1 1, 1, 0, .int 1, [], none),
  (97, 3, .goto (-35), 62, 0, .null, [], none),
  (100, 1, .aload_n 0, 0, 0, .null, [], none),
  (101, 3, .getfield 35, 9, 10, .null, [], none),
  (104, 1, .iconst 0, 0, 0, .int 0, [], none),
  (105, 1, .aload_n 0, 0, 0, .null, [], none),
  (106, 3, .getfield 35, 9, 10, .null, [], none),
  (109, 1, .iconst 1, 0, 0, .int 1, [], none),
  (110, 1, .iaload, 0, 0, .null, [], none),
  (111, 1, .iastore, 0, 0, .null, [], none),
  (112, 2, .bipush 40, 0, 0, .int 40, [], none),
  (114, 1, .istore_n 1, 1, 0, .null, [], none),
  (115, 1, .iload_n 1, 1, 0, .null, [], none),
  (116, 2, .bipush 40, 0, 0, .int 40, [], none),
  (118, 1, .aload_n 0, 0, 0, .null, [], none),
  (119, 3, .getfield 35, 9, 10, .null, [], none),
  (122, 1, .iconst 1, 0, 0, .int 1, [], none),
  (123, 1, .iaload, 0, 0, .null, [], none),
  (124, 1, .iadd, 0, 0, .null, [], none),
  (125, 3, .if_icmp .ge 62, 187, 0, .null, [], none),
  (128, 1, .iconst 0, 0, 0, .int 0, [], none),
  (129, 1, .istore_n 2, 2, 0, .null, [], none),
  (130, 2, .bipush 40, 0, 0, .int 40, [], none),
  (132, 1, .istore_n 3, 3, 0, .null, [], none),
  (133, 1, .iload_n 3, 3, 0, .null, [], none),
  (134, 2, .bipush 40, 0, 0, .int 40, [], none)] : List xr_E), xr_sd xm_P 57 e := by
  have hc : xp_cd xm_P 57 = prog_12_method_28_code := rfl
  have ho : xp_own xm_P 57 = "ExchangeTextModel" := rfl
  have hm : xp_ml xm_P 57 = 4 := rfl
  exact xl_cons (xk_iaload hc xd_57_70) <|
    xl_cons (xk_iadd hc xd_57_71) <|
    xl_cons (xk_if_icmp hc xd_57_72 (by decide)) <|
    xl_cons (xk_aload_n hc xd_57_75 rfl) <|
    xl_cons (xk_iload_n hc xd_57_76 rfl) <|
    xl_cons (xk_callV (Y := xm_y55) ho rfl (by decide) ⟨by decide, by decide⟩ xl_202 hc xd_57_77 rfl (b' := 1) rfl xm_nd55 (T := xm_T9) (N := 25) rfl xl_258 xl_259 xl_260) <|
    xl_cons (xk_ifCond hc xd_57_80 (by decide)) <|
    xl_cons (xk_sipush hc xd_57_83 (by decide)) <|
    xl_cons (xk_aload_n hc xd_57_86 rfl) <|
    xl_cons (xk_getfield (C := xm_C9) (T := xm_T9) (N := 25) hc xd_57_87 ho rfl (by decide) xm_u9 xl_188) <|
    xl_cons (xk_iload_n hc xd_57_90 rfl) <|
    xl_cons (xk_iaload hc xd_57_91) <|
    xl_cons (xk_isub hc xd_57_92) <|
    xl_cons (xk_ireturn hc xd_57_93) <|
    xl_cons (xk_iinc hc xd_57_94 hm rfl (by decide) (by decide)) <|
    xl_cons (xk_goto hc xd_57_97 (by decide)) <|
    xl_cons (xk_aload_n hc xd_57_100 rfl) <|
    xl_cons (xk_getfield (C := xm_C9) (T := xm_T9) (N := 25) hc xd_57_101 ho rfl (by decide) xm_u9 xl_187) <|
    xl_cons (xk_iconst hc xd_57_104 (by decide)) <|
    xl_cons (xk_aload_n hc xd_57_105 rfl) <|
    xl_cons (xk_getfield (C := xm_C9) (T := xm_T9) (N := 25) hc xd_57_106 ho rfl (by decide) xm_u9 xl_187) <|
    xl_cons (xk_iconst hc xd_57_109 (by decide)) <|
    xl_cons (xk_iaload hc xd_57_110) <|
    xl_cons (xk_iastore hc xd_57_111) <|
    xl_cons (xk_bipush hc xd_57_112 (by decide)) <|
    xl_cons (xk_istore_n hc xd_57_114 hm rfl (by decide)) <|
    xl_cons (xk_iload_n hc xd_57_115 rfl) <|
    xl_cons (xk_bipush hc xd_57_116 (by decide)) <|
    xl_cons (xk_aload_n hc xd_57_118 rfl) <|
    xl_cons (xk_getfield (C := xm_C9) (T := xm_T9) (N := 25) hc xd_57_119 ho rfl (by decide) xm_u9 xl_187) <|
    xl_cons (xk_iconst hc xd_57_122 (by decide)) <|
    xl_cons (xk_iaload hc xd_57_123) <|
    xl_cons (xk_iadd hc xd_57_124) <|
    xl_cons (xk_if_icmp hc xd_57_125 (by decide)) <|
    xl_cons (xk_iconst hc xd_57_128 (by decide)) <|
    xl_cons (xk_istore_n hc xd_57_129 hm rfl (by decide)) <|
    xl_cons (xk_bipush hc xd_57_130 (by decide)) <|
    xl_cons (xk_istore_n hc xd_57_132 hm rfl (by decide)) <|
    xl_cons (xk_iload_n hc xd_57_133 rfl) <|
    xl_cons (xk_bipush hc xd_57_134 (by decide)) (xl_nil)
set_option maxRecDepth 100000 in
theorem xo_57_2 : ∀ e ∈ ([(136, 1, .aload_n 0, 0, 0, .null, [], none),
  (137, 3, .getfield 35, 9, 10, .null, [], none),
  (140, 1, .iconst 1, 0, 0, .int 1, [], none),
  (141, 1, .iaload, 0, 0, .null, [], none),
  (142, 1, .iadd, 0, 0, .null, [], none),
  (143, 3, .if_icmp .ge 32, 175, 0, .null, [], none),
  (146, 1, .iload_n 2, 2, 0, .null, [], none),
  (147, 1, .aload_n 0, 0, 0, .null, [], none),
  (148, 3, .getfield 38, 9, 11, .null, [], none),
  (151, 1, .iload_n 3, 3, 0, .null, [], none),
  (152, 1, .iaload, 0, 0, .null, [], none),
  (153, 1, .aload_n 0, 0, 0, .null, [], none),
  (154, 3, .getfield 38, 9, 11, .null, [], none),
  (157, 1, .iload_n 1, 1, 0, .null, [], none),
  (158, 1, .iaload, 0, 0, .null, [], none),
  (159, 3, .if_icmp .ge 7, 166, 0, .null, [], none),
  (162, 1, .iconst 1, 0, 0, .int 1, [], none),
  (163, 3, .goto 4, 167, 0, .null, [], none),
  (166, 1, .iconst 0, 0, 0, .int 0, [], none),
  (167, 1, .iadd, 0, 0, .null, [], none),
  (168, 1, .istore_n 2, 2, 0, .null, [], none),
  (169, 3, .iinc 3 1, 3, 0, .int 1, [], none),
  (172, 3, .goto (-39), 133, 0, .null, [], none),
  (175, 1, .aload_n 0, 0, 0, .null, [], none),
  (176, 1, .iload_n 2, 2, 0, .null, [], none),
  (177, 1, .iload_n 1, 1, 0, .null, [], none),
  (178, 3, .invokevirtual 155, 56, 3, .retAddr 0, [], none),
  (181, 3, .iinc 1 1, 1, 0, .int 1, [], none),
  (184, 3, .goto (-69), 115, 0, .null, [], none),
  (187, 1, .aload_n 0, 0, 0, .null, [], none),
  (188, 1, .iconst 0, 0, 0, .int 0, [], none),
  (189, 3, .putfield 79, 9, 1, .null, [], none),
  (192, 1, .aload_n 0, 0, 0, .null, [], none),
  (193, 3, .getfield 35, 9, 10, .null, [], none),
  (196, 1, .iconst 0, 0, 0, .int 0, [], none),
  (197, 1, .iaload, 0, 0, .null, [], none),
  (198, 1, .ireturn, 0, 0, .null, [], none)] : List xr_E), xr_sd xm_P 57 e := by
  have hc : xp_cd xm_P 57 = prog_12_method_28_code := rfl
  have ho : xp_own xm_P 57 = "ExchangeTextModel" := rfl
  have hm : xp_ml xm_P 57 = 4 := rfl
  exact xl_cons (xk_aload_n hc xd_57_136 rfl) <|
    xl_cons (xk_getfield (C := xm_C9) (T := xm_T9) (N := 25) hc xd_57_137 ho rfl (by decide) xm_u9 xl_187) <|
    xl_cons (xk_iconst hc xd_57_140 (by decide)) <|
    xl_cons (xk_iaload hc xd_57_141) <|
    xl_cons (xk_iadd hc xd_57_142) <|
    xl_cons (xk_if_icmp hc xd_57_143 (by decide)) <|
    xl_cons (xk_iload_n hc xd_57_146 rfl) <|
    xl_cons (xk_aload_n hc xd_57_147 rfl) <|
    xl_cons (xk_getfield (C := xm_C9) (T := xm_T9) (N := 25) hc xd_57_148 ho rfl (by decide) xm_u9 xl_188) <|
    xl_cons (xk_iload_n hc xd_57_151 rfl) <|
    xl_cons (xk_iaload hc xd_57_152) <|
    xl_cons (xk_aload_n hc xd_57_153 rfl) <|
    xl_cons (xk_getfield (C := xm_C9) (T := xm_T9) (N := 25) hc xd_57_154 ho rfl (by decide) xm_u9 xl_188) <|
    xl_cons (xk_iload_n hc xd_57_157 rfl) <|
    xl_cons (xk_iaload hc xd_57_158) <|
    xl_cons (xk_if_icmp hc xd_57_159 (by decide)) <|
    xl_cons (xk_iconst hc xd_57_162 (by decide)) <|
    xl_cons (xk_goto hc xd_57_163 (by decide)) <|
    xl_cons (xk_iconst hc xd_57_166 (by decide)) <|
    xl_cons (xk_iadd hc xd_57_167) <|
    xl_cons (xk_istore_n hc xd_57_168 hm rfl (by decide)) <|
    xl_cons (xk_iinc hc xd_57_169 hm rfl (by decide) (by decide)) <|
    xl_cons (xk_goto hc xd_57_172 (by decide)) <|
    xl_cons (xk_aload_n hc xd_57_175 rfl) <|
    xl_cons (xk_iload_n hc xd_57_176 rfl) <|
    xl_cons (xk_iload_n hc xd_57_177 rfl) <|
    xl_cons (xk_callV (Y := xm_y56) ho rfl (by decide) ⟨by decide, by decide⟩ xl_202 hc xd_57_178 rfl (b' := 2) rfl xm_nd56 (T := xm_T9) (N := 25) rfl xl_261 xl_262 xl_263) <|
    xl_cons (xk_iinc hc xd_57_181 hm rfl (by decide) (by decide)) <|
    xl_cons (xk_goto hc xd_57_184 (by decide)) <|
    xl_cons (xk_aload_n hc xd_57_187 rfl) <|
    xl_cons (xk_iconst hc xd_57_188 (by decide)) <|
    xl_cons (xk_putfield (C := xm_C9) (T := xm_T9) (N := 25) (ty := xm_ty9) hc xd_57_189 ho rfl (by decide) xm_u9 xm_tk9 rfl xm_nm9 xl_205 rfl) <|
    xl_cons (xk_aload_n hc xd_57_192 rfl) <|
    xl_cons (xk_getfield (C := xm_C9) (T := xm_T9) (N := 25) hc xd_57_193 ho rfl (by decide) xm_u9 xl_187) <|
    xl_cons (xk_iconst hc xd_57_196 (by decide)) <|
    xl_cons (xk_iaload hc xd_57_197) <|
    xl_cons (xk_ireturn hc xd_57_198) (xl_nil)
theorem xo_57 : ∀ e ∈ xm_i57, xr_sd xm_P 57 e := xl_app xo_57_0 (xl_app xo_57_1 (xo_57_2))
set_option maxRecDepth 100000 in
theorem xo_58_0 : ∀ e ∈ ([(0, 1, .aload_n 0, 0, 0, .null, [], none),
  (1, 3, .getfield 159, 9, 24, .null, [], none),
  (4, 3, .sipush 1200, 0, 0, .int 1200, [], none),
  (7, 3, .if_icmp .ge 13, 20, 0, .null, [], none),
  (10, 1, .aload_n 0, 0, 0, .null, [], none),
  (11, 3, .getfield 13, 9, 3, .null, [], none),
  (14, 1, .aload_n 0, 0, 0, .null, [], none),
  (15, 3, .getfield 159, 9, 24, .null, [], none),
  (18, 1, .iload_n 1, 1, 0, .null, [], none),
  (19, 1, .iastore, 0, 0, .null, [], none),
  (20, 1, .aload_n 0, 0, 0, .null, [], none),
  (21, 1, .dup, 0, 0, .null, [], none),
  (22, 3, .getfield 159, 9, 24, .null, [], none),
  (25, 1, .iconst 1, 0, 0, .int 1, [], none),
  (26, 1, .iadd, 0, 0, .null, [], none),
  (27, 3, .putfield 159, 9, 24, .null, [], none),
  (30, 1, .return_, 0, 0, .null, [], none)] : List xr_E), xr_sd xm_P 58 e := by
  have hc : xp_cd xm_P 58 = prog_12_method_29_code := rfl
  have ho : xp_own xm_P 58 = "ExchangeTextModel" := rfl
  have hm : xp_ml xm_P 58 = 2 := rfl
  exact xl_cons (xk_aload_n hc xd_58_0 rfl) <|
    xl_cons (xk_getfield (C := xm_C9) (T := xm_T9) (N := 25) hc xd_58_1 ho rfl (by decide) xm_u9 xl_264) <|
    xl_cons (xk_sipush hc xd_58_4 (by decide)) <|
    xl_cons (xk_if_icmp hc xd_58_7 (by decide)) <|
    xl_cons (xk_aload_n hc xd_58_10 rfl) <|
    xl_cons (xk_getfield (C := xm_C9) (T := xm_T9) (N := 25) hc xd_58_11 ho rfl (by decide) xm_u9 xl_179) <|
    xl_cons (xk_aload_n hc xd_58_14 rfl) <|
    xl_cons (xk_getfield (C := xm_C9) (T := xm_T9) (N := 25) hc xd_58_15 ho rfl (by decide) xm_u9 xl_264) <|
    xl_cons (xk_iload_n hc xd_58_18 rfl) <|
    xl_cons (xk_iastore hc xd_58_19) <|
    xl_cons (xk_aload_n hc xd_58_20 rfl) <|
    xl_cons (xk_dup hc xd_58_21) <|
    xl_cons (xk_getfield (C := xm_C9) (T := xm_T9) (N := 25) hc xd_58_22 ho rfl (by decide) xm_u9 xl_264) <|
    xl_cons (xk_iconst hc xd_58_25 (by decide)) <|
    xl_cons (xk_iadd hc xd_58_26) <|
    xl_cons (xk_putfield (C := xm_C9) (T := xm_T9) (N := 25) (ty := xm_ty9) hc xd_58_27 ho rfl (by decide) xm_u9 xm_tk9 rfl xm_nm9 xl_264 rfl) <|
    xl_cons (xk_return_ hc xd_58_30) (xl_nil)
theorem xo_58 : ∀ e ∈ xm_i58, xr_sd xm_P 58 e := xo_58_0
set_option maxRecDepth 100000 in
theorem xo_59_0 : ∀ e ∈ ([(0, 1, .iload_n 1, 1, 0, .null, [], none),
  (1, 3, .ifCond .ge 9, 10, 0, .null, [], none),
  (4, 1, .aload_n 0, 0, 0, .null, [], none),
  (5, 2, .bipush 45, 0, 0, .int 45, [], none),
  (7, 3, .invokevirtual 162, 58, 2, .retAddr 0, [], none),
  (10, 1, .iload_n 1, 1, 0, .null, [], none),
  (11, 3, .ifCond .ge 8, 19, 0, .null, [], none),
  (14, 1, .iload_n 1, 1, 0, .null, [], none),
  (15, 1, .ineg, 0, 0, .null, [], none),
  (16, 3, .goto 4, 20, 0, .null, [], none),
  (19, 1, .iload_n 1, 1, 0, .null, [], none),
  (20, 1, .istore_n 2, 2, 0, .null, [], none),
  (21, 1, .iconst 1, 0, 0, .int 1, [], none),
  (22, 1, .istore_n 3, 3, 0, .null, [], none),
  (23, 1, .iload_n 2, 2, 0, .null, [], none),
  (24, 1, .iload_n 3, 3, 0, .null, [], none),
  (25, 1, .idiv, 0, 0, .null, [], none),
  (26, 2, .bipush 9, 0, 0, .int 9, [], none),
  (28, 3, .if_icmp .le 11, 39, 0, .null, [], none),
  (31, 2, .bipush 10, 0, 0, .int 10, [], none),
  (33, 1, .iload_n 3, 3, 0, .null, [], none),
  (34, 1, .imul, 0, 0, .null, [], none),
  (35, 1, .istore_n 3, 3, 0, .null, [], none),
  (36, 3, .goto (-13), 23, 0, .null, [], none),
  (39, 1, .iload_n 3, 3, 0, .null, [], none),
  (40, 3, .ifCond .le 24, 64, 0, .null, [], none),
  (43, 1, .aload_n 0, 0, 0, .null, [], none),
  (44, 2, .bipush 48, 0, 0, .int 48, [], none),
  (46, 1, .iload_n 2, 2, 0, .null, [], none),
  (47, 1, .iload_n 3, 3, 0, .null, [], none),
  (48, 1, .idiv, 0, 0, .null, [], none),
  (49, 2, .bipush 10, 0, 0, .int 10, [], none),
  (51, 1, .irem, 0, 0, .null, [], none),
  (52, 1, .iadd, 0, 0, .null, [], none),
  (53, 3, .invokevirtual 162, 58, 2, .retAddr 0, [], none),
  (56, 1, .iload_n 3, 3, 0, .null, [], none),
  (57, 2, .bipush 10, 0, 0, .int 10, [], none),
  (59, 1, .idiv, 0, 0, .null, [], none),
  (60, 1, .istore_n 3, 3, 0, .null, [], none),
  (61, 3, .goto (-22), 39, 0, .null, [], none)] : List xr_E), xr_sd xm_P 59 e := by
  have hc : xp_cd xm_P 59 = prog_12_method_30_code := rfl
  have ho : xp_own xm_P 59 = "ExchangeTextModel" := rfl
  have hm : xp_ml xm_P 59 = 4 := rfl
  exact xl_cons (xk_iload_n hc xd_59_0 rfl) <|
    xl_cons (xk_ifCond hc xd_59_1 (by decide)) <|
    xl_cons (xk_aload_n hc xd_59_4 rfl) <|
    xl_cons (xk_bipush hc xd_59_5 (by decide)) <|
    xl_cons (xk_callV (Y := xm_y58) ho rfl (by decide) ⟨by decide, by decide⟩ xl_202 hc xd_59_7 rfl (b' := 1) rfl xm_nd58 (T := xm_T9) (N := 25) rfl xl_265 xl_266 xl_267) <|
    xl_cons (xk_iload_n hc xd_59_10 rfl) <|
    xl_cons (xk_ifCond hc xd_59_11 (by decide)) <|
    xl_cons (xk_iload_n hc xd_59_14 rfl) <|
    xl_cons (xk_ineg hc xd_59_15) <|
    xl_cons (xk_goto hc xd_59_16 (by decide)) <|
    xl_cons (xk_iload_n hc xd_59_19 rfl) <|
    xl_cons (xk_istore_n hc xd_59_20 hm rfl (by decide)) <|
    xl_cons (xk_iconst hc xd_59_21 (by decide)) <|
    xl_cons (xk_istore_n hc xd_59_22 hm rfl (by decide)) <|
    xl_cons (xk_iload_n hc xd_59_23 rfl) <|
    xl_cons (xk_iload_n hc xd_59_24 rfl) <|
    xl_cons (xk_idiv hc xd_59_25) <|
    xl_cons (xk_bipush hc xd_59_26 (by decide)) <|
    xl_cons (xk_if_icmp hc xd_59_28 (by decide)) <|
    xl_cons (xk_bipush hc xd_59_31 (by decide)) <|
    xl_cons (xk_iload_n hc xd_59_33 rfl) <|
    xl_cons (xk_imul hc xd_59_34) <|
    xl_cons (xk_istore_n hc xd_59_35 hm rfl (by decide)) <|
    xl_cons (xk_goto hc xd_59_36 (by decide)) <|
    xl_cons (xk_iload_n hc xd_59_39 rfl) <|
    xl_cons (xk_ifCond hc xd_59_40 (by decide)) <|
    xl_cons (xk_aload_n hc xd_59_43 rfl) <|
    xl_cons (xk_bipush hc xd_59_44 (by decide)) <|
    xl_cons (xk_iload_n hc xd_59_46 rfl) <|
    xl_cons (xk_iload_n hc xd_59_47 rfl) <|
    xl_cons (xk_idiv hc xd_59_48) <|
    xl_cons (xk_bipush hc xd_59_49 (by decide)) <|
    xl_cons (xk_irem hc xd_59_51) <|
    xl_cons (xk_iadd hc xd_59_52) <|
    xl_cons (xk_callV (Y := xm_y58) ho rfl (by decide) ⟨by decide, by decide⟩ xl_202 hc xd_59_53 rfl (b' := 1) rfl xm_nd58 (T := xm_T9) (N := 25) rfl xl_265 xl_266 xl_267) <|
    xl_cons (xk_iload_n hc xd_59_56 rfl) <|
    xl_cons (xk_bipush hc xd_59_57 (by decide)) <|
    xl_cons (xk_idiv hc xd_59_59) <|
    xl_cons (xk_istore_n hc xd_59_60 hm rfl (by decide)) <|
    xl_cons (xk_goto hc xd_59_61 (by decide)) (xl_nil)
set_option maxRecDepth 100000 in
theorem xo_59_1 : ∀ e ∈ ([(64, 1, .return_, 0, 0, .null, [], none)] : List xr_E), xr_sd xm_P 59 e := by
  have hc : xp_cd xm_P 59 = prog_12_method_30_code := rfl
  have ho : xp_own xm_P 59 = "ExchangeTextModel" := rfl
  have hm : xp_ml xm_P 59 = 4 := rfl
  exact xl_cons (xk_return_ hc xd_59_64) (xl_nil)
theorem xo_59 : ∀ e ∈ xm_i59, xr_sd xm_P 59 e := xl_app xo_59_0 (xo_59_1)
set_option maxRecDepth 100000 in
theorem xo_60_0 : ∀ e ∈ ([(0, 1, .aload_n 0, 0, 0, .null, [], none),
  (1, 3, .getfield 50, 9, 15, .null, [], none),
  (4, 1, .iload_n 1, 1, 0, .null, [], none),
  (5, 1, .iaload, 0, 0, .null, [], none),
  (6, 42, .tableswitch 192 0 6 #[42, 55, 116, 192, 192, 135, 183], 198, 0, .null, [(0, 48), (1, 61), (2, 122), (3, 198), (4, 198), (5, 141), (6, 189)], none),
  (48, 1, .aload_n 0, 0, 0, .null, [], none),
  (49, 1, .aload_n 0, 0, 0, .null, [], none),
  (50, 3, .getfield 53, 9, 16, .null, [], none),
  (53, 1, .iload_n 1, 1, 0, .null, [], none),
  (54, 1, .iaload, 0, 0, .null, [], none),
  (55, 3, .invokevirtual 165, 59, 2, .retAddr 0, [], none),
  (58, 3, .goto 211, 269, 0, .null, [], none),
  (61, 1, .aload_n 0, 0, 0, .null, [], none),
  (62, 2, .bipush 39, 0, 0, .int 39, [], none),
  (64, 3, .invokevirtual 162, 58, 2, .retAddr 0, [], none),
  (67, 1, .iconst 0, 0, 0, .int 0, [], none),
  (68, 1, .istore_n 2, 2, 0, .null, [], none),
  (69, 1, .iload_n 2, 2, 0, .null, [], none),
  (70, 1, .aload_n 0, 0, 0, .null, [], none),
  (71, 3, .getfield 53, 9, 16, .null, [], none),
  (74, 1, .iload_n 1, 1, 0, .null, [], none),
  (75, 1, .iaload, 0, 0, .null, [], none),
  (76, 3, .if_icmp .ge 37, 113, 0, .null, [], none),
  (79, 1, .aload_n 0, 0, 0, .null, [], none),
  (80, 3, .getfield 56, 9, 17, .null, [], none),
  (83, 2, .bipush 20, 0, 0, .int 20, [], none),
  (85, 1, .iload_n 1, 1, 0, .null, [], none),
  (86, 1, .imul, 0, 0, .null, [], none),
  (87, 1, .iload_n 2, 2, 0, .null, [], none),
  (88, 1, .iadd, 0, 0, .null, [], none),
  (89, 1, .iaload, 0, 0, .null, [], none),
  (90, 1, .istore_n 3, 3, 0, .null, [], none),
  (91, 1, .aload_n 0, 0, 0, .null, [], none),
  (92, 1, .iload_n 3, 3, 0, .null, [], none),
  (93, 3, .invokevirtual 162, 58, 2, .retAddr 0, [], none),
  (96, 1, .iload_n 3, 3, 0, .null, [], none),
  (97, 2, .bipush 39, 0, 0, .int 39, [], none),
  (99, 3, .if_icmp .ne 8, 107, 0, .null, [], none),
  (102, 1, .aload_n 0, 0, 0, .null, [], none),
  (103, 1, .iload_n 3, 3, 0, .null, [], none)] : List xr_E), xr_sd xm_P 60 e := by
  have hc : xp_cd xm_P 60 = prog_12_method_31_code := rfl
  have ho : xp_own xm_P 60 = "ExchangeTextModel" := rfl
  have hm : xp_ml xm_P 60 = 4 := rfl
  exact xl_cons (xk_aload_n hc xd_60_0 rfl) <|
    xl_cons (xk_getfield (C := xm_C9) (T := xm_T9) (N := 25) hc xd_60_1 ho rfl (by decide) xm_u9 xl_192) <|
    xl_cons (xk_iload_n hc xd_60_4 rfl) <|
    xl_cons (xk_iaload hc xd_60_5) <|
    xl_cons (xk_tableswitch hc xd_60_6 (by decide) xs_60_6) <|
    xl_cons (xk_aload_n hc xd_60_48 rfl) <|
    xl_cons (xk_aload_n hc xd_60_49 rfl) <|
    xl_cons (xk_getfield (C := xm_C9) (T := xm_T9) (N := 25) hc xd_60_50 ho rfl (by decide) xm_u9 xl_193) <|
    xl_cons (xk_iload_n hc xd_60_53 rfl) <|
    xl_cons (xk_iaload hc xd_60_54) <|
    xl_cons (xk_callV (Y := xm_y59) ho rfl (by decide) ⟨by decide, by decide⟩ xl_202 hc xd_60_55 rfl (b' := 1) rfl xm_nd59 (T := xm_T9) (N := 25) rfl xl_268 xl_269 xl_270) <|
    xl_cons (xk_goto hc xd_60_58 (by decide)) <|
    xl_cons (xk_aload_n hc xd_60_61 rfl) <|
    xl_cons (xk_bipush hc xd_60_62 (by decide)) <|
    xl_cons (xk_callV (Y := xm_y58) ho rfl (by decide) ⟨by decide, by decide⟩ xl_202 hc xd_60_64 rfl (b' := 1) rfl xm_nd58 (T := xm_T9) (N := 25) rfl xl_265 xl_266 xl_267) <|
    xl_cons (xk_iconst hc xd_60_67 (by decide)) <|
    xl_cons (xk_istore_n hc xd_60_68 hm rfl (by decide)) <|
    xl_cons (xk_iload_n hc xd_60_69 rfl) <|
    xl_cons (xk_aload_n hc xd_60_70 rfl) <|
    xl_cons (xk_getfield (C := xm_C9) (T := xm_T9) (N := 25) hc xd_60_71 ho rfl (by decide) xm_u9 xl_193) <|
    xl_cons (xk_iload_n hc xd_60_74 rfl) <|
    xl_cons (xk_iaload hc xd_60_75) <|
    xl_cons (xk_if_icmp hc xd_60_76 (by decide)) <|
    xl_cons (xk_aload_n hc xd_60_79 rfl) <|
    xl_cons (xk_getfield (C := xm_C9) (T := xm_T9) (N := 25) hc xd_60_80 ho rfl (by decide) xm_u9 xl_194) <|
    xl_cons (xk_bipush hc xd_60_83 (by decide)) <|
    xl_cons (xk_iload_n hc xd_60_85 rfl) <|
    xl_cons (xk_imul hc xd_60_86) <|
    xl_cons (xk_iload_n hc xd_60_87 rfl) <|
    xl_cons (xk_iadd hc xd_60_88) <|
    xl_cons (xk_iaload hc xd_60_89) <|
    xl_cons (xk_istore_n hc xd_60_90 hm rfl (by decide)) <|
    xl_cons (xk_aload_n hc xd_60_91 rfl) <|
    xl_cons (xk_iload_n hc xd_60_92 rfl) <|
    xl_cons (xk_callV (Y := xm_y58) ho rfl (by decide) ⟨by decide, by decide⟩ xl_202 hc xd_60_93 rfl (b' := 1) rfl xm_nd58 (T := xm_T9) (N := 25) rfl xl_265 xl_266 xl_267) <|
    xl_cons (xk_iload_n hc xd_60_96 rfl) <|
    xl_cons (xk_bipush hc xd_60_97 (by decide)) <|
    xl_cons (xk_if_icmp hc xd_60_99 (by decide)) <|
    xl_cons (xk_aload_n hc xd_60_102 rfl) <|
    xl_cons (xk_iload_n hc xd_60_103 rfl) (xl_nil)
set_option maxRecDepth 100000 in
theorem xo_60_1 : ∀ e ∈ ([(104, 3, .invokevirtual 162, 58, 2, .retAddr 0, [], none),
  (107, 3, .iinc 2 1, 2, 0, .int 1, [], none),
  (110, 3, .goto (-41), 69, 0, .null, [], none),
  (113, 1, .aload_n 0, 0, 0, .null, [], none),
  (114, 2, .bipush 39, 0, 0, .int 39, [], none),
  (116, 3, .invokevirtual 162, 58, 2, .retAddr 0, [], none),
  (119, 3, .goto 150, 269, 0, .null, [], none),
  (122, 1, .aload_n 0, 0, 0, .null, [], none),
  (123, 2, .bipush 35, 0, 0, .int 35, [], none),
  (125, 3, .invokevirtual 162, 58, 2, .retAddr 0, [], none),
  (128, 1, .aload_n 0, 0, 0, .null, [], none),
  (129, 1, .aload_n 0, 0, 0, .null, [], none),
  (130, 3, .getfield 53, 9, 16, .null, [], none),
  (133, 1, .iload_n 1, 1, 0, .null, [], none),
  (134, 1, .iaload, 0, 0, .null, [], none),
  (135, 3, .invokevirtual 165, 59, 2, .retAddr 0, [], none),
  (138, 3, .goto 131, 269, 0, .null, [], none),
  (141, 1, .aload_n 0, 0, 0, .null, [], none),
  (142, 2, .bipush 46, 0, 0, .int 46, [], none),
  (144, 3, .invokevirtual 162, 58, 2, .retAddr 0, [], none),
  (147, 1, .iconst 0, 0, 0, .int 0, [], none),
  (148, 1, .istore_n 2, 2, 0, .null, [], none),
  (149, 1, .iload_n 2, 2, 0, .null, [], none),
  (150, 1, .aload_n 0, 0, 0, .null, [], none),
  (151, 3, .getfield 53, 9, 16, .null, [], none),
  (154, 1, .iload_n 1, 1, 0, .null, [], none),
  (155, 1, .iaload, 0, 0, .null, [], none),
  (156, 3, .if_icmp .ge 24, 180, 0, .null, [], none),
  (159, 1, .aload_n 0, 0, 0, .null, [], none),
  (160, 1, .aload_n 0, 0, 0, .null, [], none),
  (161, 3, .getfield 56, 9, 17, .null, [], none),
  (164, 2, .bipush 20, 0, 0, .int 20, [], none),
  (166, 1, .iload_n 1, 1, 0, .null, [], none),
  (167, 1, .imul, 0, 0, .null, [], none),
  (168, 1, .iload_n 2, 2, 0, .null, [], none),
  (169, 1, .iadd, 0, 0, .null, [], none),
  (170, 1, .iaload, 0, 0, .null, [], none),
  (171, 3, .invokevirtual 162, 58, 2, .retAddr 0, [], none),
  (174, 3, .iinc 2 1, 2, 0, .int 1, [], none),
  (177, 3, .goto (-28), 149, 0, .null, [], none)] : List xr_E), xr_sd xm_P 60 e := by
  have hc : xp_cd xm_P 60 = prog_12_method_31_code := rfl
  have ho : xp_own xm_P 60 = "ExchangeTextModel" := rfl
  have hm : xp_ml xm_P 60 = 4 := rfl
  exact xl_cons (xk_callV (Y := xm_y58) ho rfl (by decide) ⟨by decide, by decide⟩ xl_202 hc xd_60_104 rfl (b' := 1) rfl xm_nd58 (T := xm_T9) (N := 25) rfl xl_265 xl_266 xl_267) <|
    xl_cons (xk_iinc hc xd_60_107 hm rfl (by decide) (by decide)) <|
    xl_cons (xk_goto hc xd_60_110 (by decide)) <|
    xl_cons (xk_aload_n hc xd_60_113 rfl) <|
    xl_cons (xk_bipush hc xd_60_114 (by decide)) <|
    xl_cons (xk_callV (Y := xm_y58) ho rfl (by decide) ⟨by decide, by decide⟩ xl_202 hc xd_60_116 rfl (b' := 1) rfl xm_nd58 (T := xm_T9) (N := 25) rfl xl_265 xl_266 xl_267) <|
    xl_cons (xk_goto hc xd_60_119 (by decide)) <|
    xl_cons (xk_aload_n hc xd_60_122 rfl) <|
    xl_cons (xk_bipush hc xd_60_123 (by decide)) <|
    xl_cons (xk_callV (Y := xm_y58) ho rfl (by decide) ⟨by decide, by decide⟩ xl_202 hc xd_60_125 rfl (b' := 1) rfl xm_nd58 (T := xm_T9) (N := 25) rfl xl_265 xl_266 xl_267) <|
    xl_cons (xk_aload_n hc xd_60_128 rfl) <|
    xl_cons (xk_aload_n hc xd_60_129 rfl) <|
    xl_cons (xk_getfield (C := xm_C9) (T := xm_T9) (N := 25) hc xd_60_130 ho rfl (by decide) xm_u9 xl_193) <|
    xl_cons (xk_iload_n hc xd_60_133 rfl) <|
    xl_cons (xk_iaload hc xd_60_134) <|
    xl_cons (xk_callV (Y := xm_y59) ho rfl (by decide) ⟨by decide, by decide⟩ xl_202 hc xd_60_135 rfl (b' := 1) rfl xm_nd59 (T := xm_T9) (N := 25) rfl xl_268 xl_269 xl_270) <|
    xl_cons (xk_goto hc xd_60_138 (by decide)) <|
    xl_cons (xk_aload_n hc xd_60_141 rfl) <|
    xl_cons (xk_bipush hc xd_60_142 (by decide)) <|
    xl_cons (xk_callV (Y := xm_y58) ho rfl (by decide) ⟨by decide, by decide⟩ xl_202 hc xd_60_144 rfl (b' := 1) rfl xm_nd58 (T := xm_T9) (N := 25) rfl xl_265 xl_266 xl_267) <|
    xl_cons (xk_iconst hc xd_60_147 (by decide)) <|
    xl_cons (xk_istore_n hc xd_60_148 hm rfl (by decide)) <|
    xl_cons (xk_iload_n hc xd_60_149 rfl) <|
    xl_cons (xk_aload_n hc xd_60_150 rfl) <|
    xl_cons (xk_getfield (C := xm_C9) (T := xm_T9) (N := 25) hc xd_60_151 ho rfl (by decide) xm_u9 xl_193) <|
    xl_cons (xk_iload_n hc xd_60_154 rfl) <|
    xl_cons (xk_iaload hc xd_60_155) <|
    xl_cons (xk_if_icmp hc xd_60_156 (by decide)) <|
    xl_cons (xk_aload_n hc xd_60_159 rfl) <|
    xl_cons (xk_aload_n hc xd_60_160 rfl) <|
    xl_cons (xk_getfield (C := xm_C9) (T := xm_T9) (N := 25) hc xd_60_161 ho rfl (by decide) xm_u9 xl_194) <|
    xl_cons (xk_bipush hc xd_60_164 (by decide)) <|
    xl_cons (xk_iload_n hc xd_60_166 rfl) <|
    xl_cons (xk_imul hc xd_60_167) <|
    xl_cons (xk_iload_n hc xd_60_168 rfl) <|
    xl_cons (xk_iadd hc xd_60_169) <|
    xl_cons (xk_iaload hc xd_60_170) <|
    xl_cons (xk_callV (Y := xm_y58) ho rfl (by decide) ⟨by decide, by decide⟩ xl_202 hc xd_60_171 rfl (b' := 1) rfl xm_nd58 (T := xm_T9) (N := 25) rfl xl_265 xl_266 xl_267) <|
    xl_cons (xk_iinc hc xd_60_174 hm rfl (by decide) (by decide)) <|
    xl_cons (xk_goto hc xd_60_177 (by decide)) (xl_nil)
set_option maxRecDepth 100000 in
theorem xo_60_2 : ∀ e ∈ ([(180, 1, .aload_n 0, 0, 0, .null, [], none),
  (181, 2, .bipush 46, 0, 0, .int 46, [], none),
  (183, 3, .invokevirtual 162, 58, 2, .retAddr 0, [], none),
  (186, 3, .goto 83, 269, 0, .null, [], none),
  (189, 1, .aload_n 0, 0, 0, .null, [], none),
  (190, 2, .bipush 36, 0, 0, .int 36, [], none),
  (192, 3, .invokevirtual 162, 58, 2, .retAddr 0, [], none),
  (195, 3, .goto 74, 269, 0, .null, [], none),
  (198, 1, .aload_n 0, 0, 0, .null, [], none),
  (199, 2, .bipush 40, 0, 0, .int 40, [], none),
  (201, 3, .invokevirtual 162, 58, 2, .retAddr 0, [], none),
  (204, 1, .iconst 0, 0, 0, .int 0, [], none),
  (205, 1, .istore_n 2, 2, 0, .null, [], none),
  (206, 1, .iload_n 2, 2, 0, .null, [], none),
  (207, 1, .aload_n 0, 0, 0, .null, [], none),
  (208, 3, .getfield 53, 9, 16, .null, [], none),
  (211, 1, .iload_n 1, 1, 0, .null, [], none),
  (212, 1, .iaload, 0, 0, .null, [], none),
  (213, 3, .if_icmp .ge 50, 263, 0, .null, [], none),
  (216, 1, .iload_n 2, 2, 0, .null, [], none),
  (217, 3, .ifCond .le 9, 226, 0, .null, [], none),
  (220, 1, .aload_n 0, 0, 0, .null, [], none),
  (221, 2, .bipush 44, 0, 0, .int 44, [], none),
  (223, 3, .invokevirtual 162, 58, 2, .retAddr 0, [], none),
  (226, 1, .aload_n 0, 0, 0, .null, [], none),
  (227, 3, .getfield 50, 9, 15, .null, [], none),
  (230, 1, .iload_n 1, 1, 0, .null, [], none),
  (231, 1, .iaload, 0, 0, .null, [], none),
  (232, 1, .iconst 4, 0, 0, .int 4, [], none),
  (233, 3, .if_icmp .ne 9, 242, 0, .null, [], none),
  (236, 1, .aload_n 0, 0, 0, .null, [], none),
  (237, 2, .bipush 35, 0, 0, .int 35, [], none),
  (239, 3, .invokevirtual 162, 58, 2, .retAddr 0, [], none),
  (242, 1, .aload_n 0, 0, 0, .null, [], none),
  (243, 1, .aload_n 0, 0, 0, .null, [], none),
  (244, 3, .getfield 56, 9, 17, .null, [], none),
  (247, 2, .bipush 20, 0, 0, .int 20, [], none),
  (249, 1, .iload_n 1, 1, 0, .null, [], none),
  (250, 1, .imul, 0, 0, .null, [], none),
  (251, 1, .iload_n 2, 2, 0, .null, [], none)] : List xr_E), xr_sd xm_P 60 e := by
  have hc : xp_cd xm_P 60 = prog_12_method_31_code := rfl
  have ho : xp_own xm_P 60 = "ExchangeTextModel" := rfl
  have hm : xp_ml xm_P 60 = 4 := rfl
  exact xl_cons (xk_aload_n hc xd_60_180 rfl) <|
    xl_cons (xk_bipush hc xd_60_181 (by decide)) <|
    xl_cons (xk_callV (Y := xm_y58) ho rfl (by decide) ⟨by decide, by decide⟩ xl_202 hc xd_60_183 rfl (b' := 1) rfl xm_nd58 (T := xm_T9) (N := 25) rfl xl_265 xl_266 xl_267) <|
    xl_cons (xk_goto hc xd_60_186 (by decide)) <|
    xl_cons (xk_aload_n hc xd_60_189 rfl) <|
    xl_cons (xk_bipush hc xd_60_190 (by decide)) <|
    xl_cons (xk_callV (Y := xm_y58) ho rfl (by decide) ⟨by decide, by decide⟩ xl_202 hc xd_60_192 rfl (b' := 1) rfl xm_nd58 (T := xm_T9) (N := 25) rfl xl_265 xl_266 xl_267) <|
    xl_cons (xk_goto hc xd_60_195 (by decide)) <|
    xl_cons (xk_aload_n hc xd_60_198 rfl) <|
    xl_cons (xk_bipush hc xd_60_199 (by decide)) <|
    xl_cons (xk_callV (Y := xm_y58) ho rfl (by decide) ⟨by decide, by decide⟩ xl_202 hc xd_60_201 rfl (b' := 1) rfl xm_nd58 (T := xm_T9) (N := 25) rfl xl_265 xl_266 xl_267) <|
    xl_cons (xk_iconst hc xd_60_204 (by decide)) <|
    xl_cons (xk_istore_n hc xd_60_205 hm rfl (by decide)) <|
    xl_cons (xk_iload_n hc xd_60_206 rfl) <|
    xl_cons (xk_aload_n hc xd_60_207 rfl) <|
    xl_cons (xk_getfield (C := xm_C9) (T := xm_T9) (N := 25) hc xd_60_208 ho rfl (by decide) xm_u9 xl_193) <|
    xl_cons (xk_iload_n hc xd_60_211 rfl) <|
    xl_cons (xk_iaload hc xd_60_212) <|
    xl_cons (xk_if_icmp hc xd_60_213 (by decide)) <|
    xl_cons (xk_iload_n hc xd_60_216 rfl) <|
    xl_cons (xk_ifCond hc xd_60_217 (by decide)) <|
    xl_cons (xk_aload_n hc xd_60_220 rfl) <|
    xl_cons (xk_bipush hc xd_60_221 (by decide)) <|
    xl_cons (xk_callV (Y := xm_y58) ho rfl (by decide) ⟨by decide, by decide⟩ xl_202 hc xd_60_223 rfl (b' := 1) rfl xm_nd58 (T := xm_T9) (N := 25) rfl xl_265 xl_266 xl_267) <|
    xl_cons (xk_aload_n hc xd_60_226 rfl) <|
    xl_cons (xk_getfield (C := xm_C9) (T := xm_T9) (N := 25) hc xd_60_227 ho rfl (by decide) xm_u9 xl_192) <|
    xl_cons (xk_iload_n hc xd_60_230 rfl) <|
    xl_cons (xk_iaload hc xd_60_231) <|
    xl_cons (xk_iconst hc xd_60_232 (by decide)) <|
    xl_cons (xk_if_icmp hc xd_60_233 (by decide)) <|
    xl_cons (xk_aload_n hc xd_60_236 rfl) <|
    xl_cons (xk_bipush hc xd_60_237 (by decide)) <|
    xl_cons (xk_callV (Y := xm_y58) ho rfl (by decide) ⟨by decide, by decide⟩ xl_202 hc xd_60_239 rfl (b' := 1) rfl xm_nd58 (T := xm_T9) (N := 25) rfl xl_265 xl_266 xl_267) <|
    xl_cons (xk_aload_n hc xd_60_242 rfl) <|
    xl_cons (xk_aload_n hc xd_60_243 rfl) <|
    xl_cons (xk_getfield (C := xm_C9) (T := xm_T9) (N := 25) hc xd_60_244 ho rfl (by decide) xm_u9 xl_194) <|
    xl_cons (xk_bipush hc xd_60_247 (by decide)) <|
    xl_cons (xk_iload_n hc xd_60_249 rfl) <|
    xl_cons (xk_imul hc xd_60_250) <|
    xl_cons (xk_iload_n hc xd_60_251 rfl) (xl_nil)
set_option maxRecDepth 100000 in
theorem xo_60_3 : ∀ e ∈ ([(252, 1, .iadd, 0, 0, .null, [], none),
  (253, 1, .iaload, 0, 0, .null, [], none),
  (254, 3, .invokevirtual 165, 59, 2, .retAddr 0, [], none),
  (257, 3, .iinc 2 1, 2, 0, .int 1, [], none),
  (260, 3, .goto (-54), 206, 0, .null, [], none),
  (263, 1, .aload_n 0, 0, 0, .null, [], none),
  (264, 2, .bipush 41, 0, 0, .int 41, [], none),
  (266, 3, .invokevirtual 162, 58, 2, .retAddr 0, [], none),
  (269, 1, .return_, 0, 0, .null, [], none)] : List xr_E), xr_sd xm_P 60 e := by
  have hc : xp_cd xm_P 60 = prog_12_method_31_code := rfl
  have ho : xp_own xm_P 60 = "ExchangeTextModel" := rfl
  have hm : xp_ml xm_P 60 = 4 := rfl
  exact xl_cons (xk_iadd hc xd_60_252) <|
    xl_cons (xk_iaload hc xd_60_253) <|
    xl_cons (xk_callV (Y := xm_y59) ho rfl (by decide) ⟨by decide, by decide⟩ xl_202 hc xd_60_254 rfl (b' := 1) rfl xm_nd59 (T := xm_T9) (N := 25) rfl xl_268 xl_269 xl_270) <|
    xl_cons (xk_iinc hc xd_60_257 hm rfl (by decide) (by decide)) <|
    xl_cons (xk_goto hc xd_60_260 (by decide)) <|
    xl_cons (xk_aload_n hc xd_60_263 rfl) <|
    xl_cons (xk_bipush hc xd_60_264 (by decide)) <|
    xl_cons (xk_callV (Y := xm_y58) ho rfl (by decide) ⟨by decide, by decide⟩ xl_202 hc xd_60_266 rfl (b' := 1) rfl xm_nd58 (T := xm_T9) (N := 25) rfl xl_265 xl_266 xl_267) <|
    xl_cons (xk_return_ hc xd_60_269) (xl_nil)
theorem xo_60 : ∀ e ∈ xm_i60, xr_sd xm_P 60 e := xl_app xo_60_0 (xl_app xo_60_1 (xl_app xo_60_2 (xo_60_3)))
set_option maxRecDepth 100000 in
theorem xo_61_0 : ∀ e ∈ ([(0, 1, .aload_n 0, 0, 0, .null, [], none),
  (1, 1, .iconst 0, 0, 0, .int 0, [], none),
  (2, 3, .putfield 69, 9, 0, .null, [], none),
  (5, 1, .aload_n 0, 0, 0, .null, [], none),
  (6, 1, .iconst 0, 0, 0, .int 0, [], none),
  (7, 3, .putfield 159, 9, 24, .null, [], none),
  (10, 1, .iconst 0, 0, 0, .int 0, [], none),
  (11, 1, .istore_n 1, 1, 0, .null, [], none),
  (12, 1, .iload_n 1, 1, 0, .null, [], none),
  (13, 1, .aload_n 0, 0, 0, .null, [], none),
  (14, 3, .getfield 35, 9, 10, .null, [], none),
  (17, 1, .iconst 0, 0, 0, .int 0, [], none),
  (18, 1, .iaload, 0, 0, .null, [], none),
  (19, 3, .if_icmp .ge 120, 139, 0, .null, [], none),
  (22, 1, .aload_n 0, 0, 0, .null, [], none),
  (23, 2, .bipush 35, 0, 0, .int 35, [], none),
  (25, 3, .invokevirtual 162, 58, 2, .retAddr 0, [], none),
  (28, 1, .aload_n 0, 0, 0, .null, [], none),
  (29, 1, .aload_n 0, 0, 0, .null, [], none),
  (30, 3, .getfield 38, 9, 11, .null, [], none),
  (33, 1, .iload_n 1, 1, 0, .null, [], none),
  (34, 1, .iaload, 0, 0, .null, [], none),
  (35, 3, .invokevirtual 165, 59, 2, .retAddr 0, [], none),
  (38, 1, .aload_n 0, 0, 0, .null, [], none),
  (39, 2, .bipush 61, 0, 0, .int 61, [], none),
  (41, 3, .invokevirtual 162, 58, 2, .retAddr 0, [], none),
  (44, 1, .iconst 0, 0, 0, .int 0, [], none),
  (45, 1, .istore_n 2, 2, 0, .null, [], none),
  (46, 1, .iload_n 2, 2, 0, .null, [], none),
  (47, 1, .aload_n 0, 0, 0, .null, [], none),
  (48, 3, .getfield 41, 9, 12, .null, [], none),
  (51, 1, .iload_n 1, 1, 0, .null, [], none),
  (52, 1, .iaload, 0, 0, .null, [], none),
  (53, 3, .if_icmp .ge 24, 77, 0, .null, [], none),
  (56, 1, .aload_n 0, 0, 0, .null, [], none),
  (57, 1, .aload_n 0, 0, 0, .null, [], none),
  (58, 3, .getfield 44, 9, 13, .null, [], none),
  (61, 2, .bipush 8, 0, 0, .int 8, [], none),
  (63, 1, .iload_n 1, 1, 0, .null, [], none),
  (64, 1, .imul, 0, 0, .null, [], none)] : List xr_E), xr_sd xm_P 61 e := by
  have hc : xp_cd xm_P 61 = prog_12_method_32_code := rfl
  have ho : xp_own xm_P 61 = "ExchangeTextModel" := rfl
  have hm : xp_ml xm_P 61 = 3 := rfl
  exact xl_cons (xk_aload_n hc xd_61_0 rfl) <|
    xl_cons (xk_iconst hc xd_61_1 (by decide)) <|
    xl_cons (xk_putfield (C := xm_C9) (T := xm_T9) (N := 25) (ty := xm_ty9) hc xd_61_2 ho rfl (by decide) xm_u9 xm_tk9 rfl xm_nm9 xl_199 rfl) <|
    xl_cons (xk_aload_n hc xd_61_5 rfl) <|
    xl_cons (xk_iconst hc xd_61_6 (by decide)) <|
    xl_cons (xk_putfield (C := xm_C9) (T := xm_T9) (N := 25) (ty := xm_ty9) hc xd_61_7 ho rfl (by decide) xm_u9 xm_tk9 rfl xm_nm9 xl_264 rfl) <|
    xl_cons (xk_iconst hc xd_61_10 (by decide)) <|
    xl_cons (xk_istore_n hc xd_61_11 hm rfl (by decide)) <|
    xl_cons (xk_iload_n hc xd_61_12 rfl) <|
    xl_cons (xk_aload_n hc xd_61_13 rfl) <|
    xl_cons (xk_getfield (C := xm_C9) (T := xm_T9) (N := 25) hc xd_61_14 ho rfl (by decide) xm_u9 xl_187) <|
    xl_cons (xk_iconst hc xd_61_17 (by decide)) <|
    xl_cons (xk_iaload hc xd_61_18) <|
    xl_cons (xk_if_icmp hc xd_61_19 (by decide)) <|
    xl_cons (xk_aload_n hc xd_61_22 rfl) <|
    xl_cons (xk_bipush hc xd_61_23 (by decide)) <|
    xl_cons (xk_callV (Y := xm_y58) ho rfl (by decide) ⟨by decide, by decide⟩ xl_202 hc xd_61_25 rfl (b' := 1) rfl xm_nd58 (T := xm_T9) (N := 25) rfl xl_265 xl_266 xl_267) <|
    xl_cons (xk_aload_n hc xd_61_28 rfl) <|
    xl_cons (xk_aload_n hc xd_61_29 rfl) <|
    xl_cons (xk_getfield (C := xm_C9) (T := xm_T9) (N := 25) hc xd_61_30 ho rfl (by decide) xm_u9 xl_188) <|
    xl_cons (xk_iload_n hc xd_61_33 rfl) <|
    xl_cons (xk_iaload hc xd_61_34) <|
    xl_cons (xk_callV (Y := xm_y59) ho rfl (by decide) ⟨by decide, by decide⟩ xl_202 hc xd_61_35 rfl (b' := 1) rfl xm_nd59 (T := xm_T9) (N := 25) rfl xl_268 xl_269 xl_270) <|
    xl_cons (xk_aload_n hc xd_61_38 rfl) <|
    xl_cons (xk_bipush hc xd_61_39 (by decide)) <|
    xl_cons (xk_callV (Y := xm_y58) ho rfl (by decide) ⟨by decide, by decide⟩ xl_202 hc xd_61_41 rfl (b' := 1) rfl xm_nd58 (T := xm_T9) (N := 25) rfl xl_265 xl_266 xl_267) <|
    xl_cons (xk_iconst hc xd_61_44 (by decide)) <|
    xl_cons (xk_istore_n hc xd_61_45 hm rfl (by decide)) <|
    xl_cons (xk_iload_n hc xd_61_46 rfl) <|
    xl_cons (xk_aload_n hc xd_61_47 rfl) <|
    xl_cons (xk_getfield (C := xm_C9) (T := xm_T9) (N := 25) hc xd_61_48 ho rfl (by decide) xm_u9 xl_189) <|
    xl_cons (xk_iload_n hc xd_61_51 rfl) <|
    xl_cons (xk_iaload hc xd_61_52) <|
    xl_cons (xk_if_icmp hc xd_61_53 (by decide)) <|
    xl_cons (xk_aload_n hc xd_61_56 rfl) <|
    xl_cons (xk_aload_n hc xd_61_57 rfl) <|
    xl_cons (xk_getfield (C := xm_C9) (T := xm_T9) (N := 25) hc xd_61_58 ho rfl (by decide) xm_u9 xl_190) <|
    xl_cons (xk_bipush hc xd_61_61 (by decide)) <|
    xl_cons (xk_iload_n hc xd_61_63 rfl) <|
    xl_cons (xk_imul hc xd_61_64) (xl_nil)
set_option maxRecDepth 100000 in
theorem xo_61_1 : ∀ e ∈ ([(65, 1, .iload_n 2, 2, 0, .null, [], none),
  (66, 1, .iadd, 0, 0, .null, [], none),
  (67, 1, .iaload, 0, 0, .null, [], none),
  (68, 3, .invokevirtual 162, 58, 2, .retAddr 0, [], none),
  (71, 3, .iinc 2 1, 2, 0, .int 1, [], none),
  (74, 3, .goto (-28), 46, 0, .null, [], none),
  (77, 1, .aload_n 0, 0, 0, .null, [], none),
  (78, 2, .bipush 40, 0, 0, .int 40, [], none),
  (80, 3, .invokevirtual 162, 58, 2, .retAddr 0, [], none),
  (83, 1, .iconst 0, 0, 0, .int 0, [], none),
  (84, 1, .istore_n 2, 2, 0, .null, [], none),
  (85, 1, .iload_n 2, 2, 0, .null, [], none),
  (86, 1, .aload_n 0, 0, 0, .null, [], none),
  (87, 3, .getfield 47, 9, 14, .null, [], none),
  (90, 1, .iload_n 1, 1, 0, .null, [], none),
  (91, 1, .iaload, 0, 0, .null, [], none),
  (92, 3, .if_icmp .ge 29, 121, 0, .null, [], none),
  (95, 1, .iload_n 2, 2, 0, .null, [], none),
  (96, 3, .ifCond .le 9, 105, 0, .null, [], none),
  (99, 1, .aload_n 0, 0, 0, .null, [], none),
  (100, 2, .bipush 44, 0, 0, .int 44, [], none),
  (102, 3, .invokevirtual 162, 58, 2, .retAddr 0, [], none),
  (105, 1, .aload_n 0, 0, 0, .null, [], none),
  (106, 2, .bipush 8, 0, 0, .int 8, [], none),
  (108, 1, .iload_n 1, 1, 0, .null, [], none),
  (109, 1, .imul, 0, 0, .null, [], none),
  (110, 1, .iload_n 2, 2, 0, .null, [], none),
  (111, 1, .iadd, 0, 0, .null, [], none),
  (112, 3, .invokevirtual 168, 60, 2, .retAddr 0, [], none),
  (115, 3, .iinc 2 1, 2, 0, .int 1, [], none),
  (118, 3, .goto (-33), 85, 0, .null, [], none),
  (121, 1, .aload_n 0, 0, 0, .null, [], none),
  (122, 2, .bipush 41, 0, 0, .int 41, [], none),
  (124, 3, .invokevirtual 162, 58, 2, .retAddr 0, [], none),
  (127, 1, .aload_n 0, 0, 0, .null, [], none),
  (128, 2, .bipush 59, 0, 0, .int 59, [], none),
  (130, 3, .invokevirtual 162, 58, 2, .retAddr 0, [], none),
  (133, 3, .iinc 1 1, 1, 0, .int 1, [], none),
  (136, 3, .goto (-124), 12, 0, .null, [], none),
  (139, 1, .aload_n 0, 0, 0, .null, [], none)] : List xr_E), xr_sd xm_P 61 e := by
  have hc : xp_cd xm_P 61 = prog_12_method_32_code := rfl
  have ho : xp_own xm_P 61 = "ExchangeTextModel" := rfl
  have hm : xp_ml xm_P 61 = 3 := rfl
  exact xl_cons (xk_iload_n hc xd_61_65 rfl) <|
    xl_cons (xk_iadd hc xd_61_66) <|
    xl_cons (xk_iaload hc xd_61_67) <|
    xl_cons (xk_callV (Y := xm_y58) ho rfl (by decide) ⟨by decide, by decide⟩ xl_202 hc xd_61_68 rfl (b' := 1) rfl xm_nd58 (T := xm_T9) (N := 25) rfl xl_265 xl_266 xl_267) <|
    xl_cons (xk_iinc hc xd_61_71 hm rfl (by decide) (by decide)) <|
    xl_cons (xk_goto hc xd_61_74 (by decide)) <|
    xl_cons (xk_aload_n hc xd_61_77 rfl) <|
    xl_cons (xk_bipush hc xd_61_78 (by decide)) <|
    xl_cons (xk_callV (Y := xm_y58) ho rfl (by decide) ⟨by decide, by decide⟩ xl_202 hc xd_61_80 rfl (b' := 1) rfl xm_nd58 (T := xm_T9) (N := 25) rfl xl_265 xl_266 xl_267) <|
    xl_cons (xk_iconst hc xd_61_83 (by decide)) <|
    xl_cons (xk_istore_n hc xd_61_84 hm rfl (by decide)) <|
    xl_cons (xk_iload_n hc xd_61_85 rfl) <|
    xl_cons (xk_aload_n hc xd_61_86 rfl) <|
    xl_cons (xk_getfield (C := xm_C9) (T := xm_T9) (N := 25) hc xd_61_87 ho rfl (by decide) xm_u9 xl_191) <|
    xl_cons (xk_iload_n hc xd_61_90 rfl) <|
    xl_cons (xk_iaload hc xd_61_91) <|
    xl_cons (xk_if_icmp hc xd_61_92 (by decide)) <|
    xl_cons (xk_iload_n hc xd_61_95 rfl) <|
    xl_cons (xk_ifCond hc xd_61_96 (by decide)) <|
    xl_cons (xk_aload_n hc xd_61_99 rfl) <|
    xl_cons (xk_bipush hc xd_61_100 (by decide)) <|
    xl_cons (xk_callV (Y := xm_y58) ho rfl (by decide) ⟨by decide, by decide⟩ xl_202 hc xd_61_102 rfl (b' := 1) rfl xm_nd58 (T := xm_T9) (N := 25) rfl xl_265 xl_266 xl_267) <|
    xl_cons (xk_aload_n hc xd_61_105 rfl) <|
    xl_cons (xk_bipush hc xd_61_106 (by decide)) <|
    xl_cons (xk_iload_n hc xd_61_108 rfl) <|
    xl_cons (xk_imul hc xd_61_109) <|
    xl_cons (xk_iload_n hc xd_61_110 rfl) <|
    xl_cons (xk_iadd hc xd_61_111) <|
    xl_cons (xk_callV (Y := xm_y60) ho rfl (by decide) ⟨by decide, by decide⟩ xl_202 hc xd_61_112 rfl (b' := 1) rfl xm_nd60 (T := xm_T9) (N := 25) rfl xl_271 xl_272 xl_273) <|
    xl_cons (xk_iinc hc xd_61_115 hm rfl (by decide) (by decide)) <|
    xl_cons (xk_goto hc xd_61_118 (by decide)) <|
    xl_cons (xk_aload_n hc xd_61_121 rfl) <|
    xl_cons (xk_bipush hc xd_61_122 (by decide)) <|
    xl_cons (xk_callV (Y := xm_y58) ho rfl (by decide) ⟨by decide, by decide⟩ xl_202 hc xd_61_124 rfl (b' := 1) rfl xm_nd58 (T := xm_T9) (N := 25) rfl xl_265 xl_266 xl_267) <|
    xl_cons (xk_aload_n hc xd_61_127 rfl) <|
    xl_cons (xk_bipush hc xd_61_128 (by decide)) <|
    xl_cons (xk_callV (Y := xm_y58) ho rfl (by decide) ⟨by decide, by decide⟩ xl_202 hc xd_61_130 rfl (b' := 1) rfl xm_nd58 (T := xm_T9) (N := 25) rfl xl_265 xl_266 xl_267) <|
    xl_cons (xk_iinc hc xd_61_133 hm rfl (by decide) (by decide)) <|
    xl_cons (xk_goto hc xd_61_136 (by decide)) <|
    xl_cons (xk_aload_n hc xd_61_139 rfl) (xl_nil)
set_option maxRecDepth 100000 in
theorem xo_61_2 : ∀ e ∈ ([(140, 3, .getfield 159, 9, 24, .null, [], none),
  (143, 3, .sipush 1200, 0, 0, .int 1200, [], none),
  (146, 3, .if_icmp .le 6, 152, 0, .null, [], none),
  (149, 2, .bipush (-2), 0, 0, .int (-2), [], none),
  (151, 1, .ireturn, 0, 0, .null, [], none),
  (152, 1, .iconst 0, 0, 0, .int 0, [], none),
  (153, 1, .istore_n 1, 1, 0, .null, [], none),
  (154, 1, .iload_n 1, 1, 0, .null, [], none),
  (155, 1, .aload_n 0, 0, 0, .null, [], none),
  (156, 3, .getfield 159, 9, 24, .null, [], none),
  (159, 3, .if_icmp .ge 21, 180, 0, .null, [], none),
  (162, 1, .aload_n 0, 0, 0, .null, [], none),
  (163, 3, .getfield 7, 9, 2, .null, [], none),
  (166, 1, .iload_n 1, 1, 0, .null, [], none),
  (167, 1, .aload_n 0, 0, 0, .null, [], none),
  (168, 3, .getfield 13, 9, 3, .null, [], none),
  (171, 1, .iload_n 1, 1, 0, .null, [], none),
  (172, 1, .iaload, 0, 0, .null, [], none),
  (173, 1, .iastore, 0, 0, .null, [], none),
  (174, 3, .iinc 1 1, 1, 0, .int 1, [], none),
  (177, 3, .goto (-23), 154, 0, .null, [], none),
  (180, 1, .aload_n 0, 0, 0, .null, [], none),
  (181, 1, .aload_n 0, 0, 0, .null, [], none),
  (182, 3, .getfield 159, 9, 24, .null, [], none),
  (185, 3, .putfield 79, 9, 1, .null, [], none),
  (188, 1, .aload_n 0, 0, 0, .null, [], none),
  (189, 3, .getfield 79, 9, 1, .null, [], none),
  (192, 1, .ireturn, 0, 0, .null, [], none)] : List xr_E), xr_sd xm_P 61 e := by
  have hc : xp_cd xm_P 61 = prog_12_method_32_code := rfl
  have ho : xp_own xm_P 61 = "ExchangeTextModel" := rfl
  have hm : xp_ml xm_P 61 = 3 := rfl
  exact xl_cons (xk_getfield (C := xm_C9) (T := xm_T9) (N := 25) hc xd_61_140 ho rfl (by decide) xm_u9 xl_264) <|
    xl_cons (xk_sipush hc xd_61_143 (by decide)) <|
    xl_cons (xk_if_icmp hc xd_61_146 (by decide)) <|
    xl_cons (xk_bipush hc xd_61_149 (by decide)) <|
    xl_cons (xk_ireturn hc xd_61_151) <|
    xl_cons (xk_iconst hc xd_61_152 (by decide)) <|
    xl_cons (xk_istore_n hc xd_61_153 hm rfl (by decide)) <|
    xl_cons (xk_iload_n hc xd_61_154 rfl) <|
    xl_cons (xk_aload_n hc xd_61_155 rfl) <|
    xl_cons (xk_getfield (C := xm_C9) (T := xm_T9) (N := 25) hc xd_61_156 ho rfl (by decide) xm_u9 xl_264) <|
    xl_cons (xk_if_icmp hc xd_61_159 (by decide)) <|
    xl_cons (xk_aload_n hc xd_61_162 rfl) <|
    xl_cons (xk_getfield (C := xm_C9) (T := xm_T9) (N := 25) hc xd_61_163 ho rfl (by decide) xm_u9 xl_178) <|
    xl_cons (xk_iload_n hc xd_61_166 rfl) <|
    xl_cons (xk_aload_n hc xd_61_167 rfl) <|
    xl_cons (xk_getfield (C := xm_C9) (T := xm_T9) (N := 25) hc xd_61_168 ho rfl (by decide) xm_u9 xl_179) <|
    xl_cons (xk_iload_n hc xd_61_171 rfl) <|
    xl_cons (xk_iaload hc xd_61_172) <|
    xl_cons (xk_iastore hc xd_61_173) <|
    xl_cons (xk_iinc hc xd_61_174 hm rfl (by decide) (by decide)) <|
    xl_cons (xk_goto hc xd_61_177 (by decide)) <|
    xl_cons (xk_aload_n hc xd_61_180 rfl) <|
    xl_cons (xk_aload_n hc xd_61_181 rfl) <|
    xl_cons (xk_getfield (C := xm_C9) (T := xm_T9) (N := 25) hc xd_61_182 ho rfl (by decide) xm_u9 xl_264) <|
    xl_cons (xk_putfield (C := xm_C9) (T := xm_T9) (N := 25) (ty := xm_ty9) hc xd_61_185 ho rfl (by decide) xm_u9 xm_tk9 rfl xm_nm9 xl_205 rfl) <|
    xl_cons (xk_aload_n hc xd_61_188 rfl) <|
    xl_cons (xk_getfield (C := xm_C9) (T := xm_T9) (N := 25) hc xd_61_189 ho rfl (by decide) xm_u9 xl_205) <|
    xl_cons (xk_ireturn hc xd_61_192) (xl_nil)
theorem xo_61 : ∀ e ∈ xm_i61, xr_sd xm_P 61 e := xl_app xo_61_0 (xl_app xo_61_1 (xo_61_2))
set_option maxRecDepth 100000 in
theorem xo_62_0 : ∀ e ∈ ([(0, 1, .aload_n 0, 0, 0, .null, [], none),
  (1, 1, .iconst 0, 0, 0, .int 0, [], none),
  (2, 3, .putfield 69, 9, 0, .null, [], none),
  (5, 1, .aload_n 0, 0, 0, .null, [], none),
  (6, 3, .getfield 35, 9, 10, .null, [], none),
  (9, 1, .iconst 2, 0, 0, .int 2, [], none),
  (10, 1, .aload_n 0, 0, 0, .null, [], none),
  (11, 3, .getfield 35, 9, 10, .null, [], none),
  (14, 1, .iconst 0, 0, 0, .int 0, [], none),
  (15, 1, .iaload, 0, 0, .null, [], none),
  (16, 1, .iastore, 0, 0, .null, [], none),
  (17, 1, .iconst 0, 0, 0, .int 0, [], none),
  (18, 1, .istore_n 1, 1, 0, .null, [], none),
  (19, 1, .iload_n 1, 1, 0, .null, [], none),
  (20, 1, .aload_n 0, 0, 0, .null, [], none),
  (21, 3, .getfield 35, 9, 10, .null, [], none),
  (24, 1, .iconst 0, 0, 0, .int 0, [], none),
  (25, 1, .iaload, 0, 0, .null, [], none),
  (26, 3, .if_icmp .ge 18, 44, 0, .null, [], none),
  (29, 1, .aload_n 0, 0, 0, .null, [], none),
  (30, 2, .bipush 80, 0, 0, .int 80, [], none),
  (32, 1, .iload_n 1, 1, 0, .null, [], none),
  (33, 1, .iadd, 0, 0, .null, [], none),
  (34, 1, .iload_n 1, 1, 0, .null, [], none),
  (35, 3, .invokevirtual 155, 56, 3, .retAddr 0, [], none),
  (38, 3, .iinc 1 1, 1, 0, .int 1, [], none),
  (41, 3, .goto (-22), 19, 0, .null, [], none),
  (44, 1, .aload_n 0, 0, 0, .null, [], none),
  (45, 3, .getfield 35, 9, 10, .null, [], none),
  (48, 1, .iconst 2, 0, 0, .int 2, [], none),
  (49, 1, .iaload, 0, 0, .null, [], none),
  (50, 1, .ireturn, 0, 0, .null, [], none)] : List xr_E), xr_sd xm_P 62 e := by
  have hc : xp_cd xm_P 62 = prog_12_method_33_code := rfl
  have ho : xp_own xm_P 62 = "ExchangeTextModel" := rfl
  have hm : xp_ml xm_P 62 = 2 := rfl
  exact xl_cons (xk_aload_n hc xd_62_0 rfl) <|
    xl_cons (xk_iconst hc xd_62_1 (by decide)) <|
    xl_cons (xk_putfield (C := xm_C9) (T := xm_T9) (N := 25) (ty := xm_ty9) hc xd_62_2 ho rfl (by decide) xm_u9 xm_tk9 rfl xm_nm9 xl_199 rfl) <|
    xl_cons (xk_aload_n hc xd_62_5 rfl) <|
    xl_cons (xk_getfield (C := xm_C9) (T := xm_T9) (N := 25) hc xd_62_6 ho rfl (by decide) xm_u9 xl_187) <|
    xl_cons (xk_iconst hc xd_62_9 (by decide)) <|
    xl_cons (xk_aload_n hc xd_62_10 rfl) <|
    xl_cons (xk_getfield (C := xm_C9) (T := xm_T9) (N := 25) hc xd_62_11 ho rfl (by decide) xm_u9 xl_187) <|
    xl_cons (xk_iconst hc xd_62_14 (by decide)) <|
    xl_cons (xk_iaload hc xd_62_15) <|
    xl_cons (xk_iastore hc xd_62_16) <|
    xl_cons (xk_iconst hc xd_62_17 (by decide)) <|
    xl_cons (xk_istore_n hc xd_62_18 hm rfl (by decide)) <|
    xl_cons (xk_iload_n hc xd_62_19 rfl) <|
    xl_cons (xk_aload_n hc xd_62_20 rfl) <|
    xl_cons (xk_getfield (C := xm_C9) (T := xm_T9) (N := 25) hc xd_62_21 ho rfl (by decide) xm_u9 xl_187) <|
    xl_cons (xk_iconst hc xd_62_24 (by decide)) <|
    xl_cons (xk_iaload hc xd_62_25) <|
    xl_cons (xk_if_icmp hc xd_62_26 (by decide)) <|
    xl_cons (xk_aload_n hc xd_62_29 rfl) <|
    xl_cons (xk_bipush hc xd_62_30 (by decide)) <|
    xl_cons (xk_iload_n hc xd_62_32 rfl) <|
    xl_cons (xk_iadd hc xd_62_33) <|
    xl_cons (xk_iload_n hc xd_62_34 rfl) <|
    xl_cons (xk_callV (Y := xm_y56) ho rfl (by decide) ⟨by decide, by decide⟩ xl_202 hc xd_62_35 rfl (b' := 2) rfl xm_nd56 (T := xm_T9) (N := 25) rfl xl_261 xl_262 xl_263) <|
    xl_cons (xk_iinc hc xd_62_38 hm rfl (by decide) (by decide)) <|
    xl_cons (xk_goto hc xd_62_41 (by decide)) <|
    xl_cons (xk_aload_n hc xd_62_44 rfl) <|
    xl_cons (xk_getfield (C := xm_C9) (T := xm_T9) (N := 25) hc xd_62_45 ho rfl (by decide) xm_u9 xl_187) <|
    xl_cons (xk_iconst hc xd_62_48 (by decide)) <|
    xl_cons (xk_iaload hc xd_62_49) <|
    xl_cons (xk_ireturn hc xd_62_50) (xl_nil)
theorem xo_62 : ∀ e ∈ xm_i62, xr_sd xm_P 62 e := xo_62_0
set_option maxRecDepth 100000 in
theorem xo_63_0 : ∀ e ∈ ([(0, 1, .aload_n 0, 0, 0, .null, [], none),
  (1, 1, .iconst 0, 0, 0, .int 0, [], none),
  (2, 3, .putfield 69, 9, 0, .null, [], none),
  (5, 1, .aload_n 0, 0, 0, .null, [], none),
  (6, 1, .iload_n 1, 1, 0, .null, [], none),
  (7, 3, .ifCond .ge 7, 14, 0, .null, [], none),
  (10, 1, .iconst 1, 0, 0, .int 1, [], none),
  (11, 3, .goto 4, 15, 0, .null, [], none),
  (14, 1, .iconst 0, 0, 0, .int 0, [], none),
  (15, 1, .iconst 1, 0, 0, .int 1, [], none),
  (16, 3, .invokevirtual 75, 32, 3, .retAddr 0, [], none),
  (19, 3, .ifCond .eq 5, 24, 0, .null, [], none),
  (22, 1, .iconst 0, 0, 0, .int 0, [], none),
  (23, 1, .ireturn, 0, 0, .null, [], none),
  (24, 1, .iload_n 1, 1, 0, .null, [], none),
  (25, 1, .aload_n 0, 0, 0, .null, [], none),
  (26, 3, .getfield 35, 9, 10, .null, [], none),
  (29, 1, .iconst 0, 0, 0, .int 0, [], none),
  (30, 1, .iaload, 0, 0, .null, [], none),
  (31, 3, .if_icmp .ge 12, 43, 0, .null, [], none),
  (34, 1, .aload_n 0, 0, 0, .null, [], none),
  (35, 3, .getfield 38, 9, 11, .null, [], none),
  (38, 1, .iload_n 1, 1, 0, .null, [], none),
  (39, 1, .iaload, 0, 0, .null, [], none),
  (40, 3, .goto 4, 44, 0, .null, [], none),
  (43, 1, .iconst (-1), 0, 0, .int (-1), [], none),
  (44, 1, .ireturn, 0, 0, .null, [], none)] : List xr_E), xr_sd xm_P 63 e := by
  have hc : xp_cd xm_P 63 = prog_12_method_34_code := rfl
  have ho : xp_own xm_P 63 = "ExchangeTextModel" := rfl
  have hm : xp_ml xm_P 63 = 2 := rfl
  exact xl_cons (xk_aload_n hc xd_63_0 rfl) <|
    xl_cons (xk_iconst hc xd_63_1 (by decide)) <|
    xl_cons (xk_putfield (C := xm_C9) (T := xm_T9) (N := 25) (ty := xm_ty9) hc xd_63_2 ho rfl (by decide) xm_u9 xm_tk9 rfl xm_nm9 xl_199 rfl) <|
    xl_cons (xk_aload_n hc xd_63_5 rfl) <|
    xl_cons (xk_iload_n hc xd_63_6 rfl) <|
    xl_cons (xk_ifCond hc xd_63_7 (by decide)) <|
    xl_cons (xk_iconst hc xd_63_10 (by decide)) <|
    xl_cons (xk_goto hc xd_63_11 (by decide)) <|
    xl_cons (xk_iconst hc xd_63_14 (by decide)) <|
    xl_cons (xk_iconst hc xd_63_15 (by decide)) <|
    xl_cons (xk_callV (Y := xm_y32) ho rfl (by decide) ⟨by decide, by decide⟩ xl_202 hc xd_63_16 rfl (b' := 2) rfl xm_nd32 (T := xm_T9) (N := 25) rfl xl_201 xl_203 xl_204) <|
    xl_cons (xk_ifCond hc xd_63_19 (by decide)) <|
    xl_cons (xk_iconst hc xd_63_22 (by decide)) <|
    xl_cons (xk_ireturn hc xd_63_23) <|
    xl_cons (xk_iload_n hc xd_63_24 rfl) <|
    xl_cons (xk_aload_n hc xd_63_25 rfl) <|
    xl_cons (xk_getfield (C := xm_C9) (T := xm_T9) (N := 25) hc xd_63_26 ho rfl (by decide) xm_u9 xl_187) <|
    xl_cons (xk_iconst hc xd_63_29 (by decide)) <|
    xl_cons (xk_iaload hc xd_63_30) <|
    xl_cons (xk_if_icmp hc xd_63_31 (by decide)) <|
    xl_cons (xk_aload_n hc xd_63_34 rfl) <|
    xl_cons (xk_getfield (C := xm_C9) (T := xm_T9) (N := 25) hc xd_63_35 ho rfl (by decide) xm_u9 xl_188) <|
    xl_cons (xk_iload_n hc xd_63_38 rfl) <|
    xl_cons (xk_iaload hc xd_63_39) <|
    xl_cons (xk_goto hc xd_63_40 (by decide)) <|
    xl_cons (xk_iconst hc xd_63_43 (by decide)) <|
    xl_cons (xk_ireturn hc xd_63_44) (xl_nil)
theorem xo_63 : ∀ e ∈ xm_i63, xr_sd xm_P 63 e := xo_63_0
set_option maxRecDepth 100000 in
theorem xo_64_0 : ∀ e ∈ ([(0, 1, .iconst 0, 0, 0, .int 0, [], none),
  (1, 1, .istore_n 2, 2, 0, .null, [], none),
  (2, 1, .iload_n 2, 2, 0, .null, [], none),
  (3, 1, .aload_n 0, 0, 0, .null, [], none),
  (4, 3, .getfield 16, 9, 4, .null, [], none),
  (7, 1, .iconst 0, 0, 0, .int 0, [], none),
  (8, 1, .iaload, 0, 0, .null, [], none),
  (9, 3, .if_icmp .ge 54, 63, 0, .null, [], none),
  (12, 1, .aload_n 0, 0, 0, .null, [], none),
  (13, 3, .getfield 19, 9, 5, .null, [], none),
  (16, 1, .iload_n 2, 2, 0, .null, [], none),
  (17, 1, .iaload, 0, 0, .null, [], none),
  (18, 1, .aload_n 0, 0, 0, .null, [], none),
  (19, 3, .getfield 41, 9, 12, .null, [], none),
  (22, 1, .iload_n 1, 1, 0, .null, [], none),
  (23, 1, .iaload, 0, 0, .null, [], none),
  (24, 3, .if_icmp .ne 33, 57, 0, .null, [], none),
  (27, 1, .aload_n 0, 0, 0, .null, [], none),
  (28, 3, .getfield 22, 9, 6, .null, [], none),
  (31, 2, .bipush 8, 0, 0, .int 8, [], none),
  (33, 1, .iload_n 2, 2, 0, .null, [], none),
  (34, 1, .imul, 0, 0, .null, [], none),
  (35, 1, .aload_n 0, 0, 0, .null, [], none),
  (36, 3, .getfield 44, 9, 13, .null, [], none),
  (39, 2, .bipush 8, 0, 0, .int 8, [], none),
  (41, 1, .iload_n 1, 1, 0, .null, [], none),
  (42, 1, .imul, 0, 0, .null, [], none),
  (43, 1, .aload_n 0, 0, 0, .null, [], none),
  (44, 3, .getfield 41, 9, 12, .null, [], none),
  (47, 1, .iload_n 1, 1, 0, .null, [], none),
  (48, 1, .iaload, 0, 0, .null, [], none),
  (49, 3, .invokestatic 117, 47, 5, .retAddr 2, [], none),
  (52, 3, .ifCond .eq 5, 57, 0, .null, [], none),
  (55, 1, .iload_n 2, 2, 0, .null, [], none),
  (56, 1, .ireturn, 0, 0, .null, [], none),
  (57, 3, .iinc 2 1, 2, 0, .int 1, [], none),
  (60, 3, .goto (-58), 2, 0, .null, [], none),
  (63, 1, .iconst (-1), 0, 0, .int (-1), [], none),
  (64, 1, .ireturn, 0, 0, .null, [], none)] : List xr_E), xr_sd xm_P 64 e := by
  have hc : xp_cd xm_P 64 = prog_12_method_35_code := rfl
  have ho : xp_own xm_P 64 = "ExchangeTextModel" := rfl
  have hm : xp_ml xm_P 64 = 3 := rfl
  exact xl_cons (xk_iconst hc xd_64_0 (by decide)) <|
    xl_cons (xk_istore_n hc xd_64_1 hm rfl (by decide)) <|
    xl_cons (xk_iload_n hc xd_64_2 rfl) <|
    xl_cons (xk_aload_n hc xd_64_3 rfl) <|
    xl_cons (xk_getfield (C := xm_C9) (T := xm_T9) (N := 25) hc xd_64_4 ho rfl (by decide) xm_u9 xl_180) <|
    xl_cons (xk_iconst hc xd_64_7 (by decide)) <|
    xl_cons (xk_iaload hc xd_64_8) <|
    xl_cons (xk_if_icmp hc xd_64_9 (by decide)) <|
    xl_cons (xk_aload_n hc xd_64_12 rfl) <|
    xl_cons (xk_getfield (C := xm_C9) (T := xm_T9) (N := 25) hc xd_64_13 ho rfl (by decide) xm_u9 xl_181) <|
    xl_cons (xk_iload_n hc xd_64_16 rfl) <|
    xl_cons (xk_iaload hc xd_64_17) <|
    xl_cons (xk_aload_n hc xd_64_18 rfl) <|
    xl_cons (xk_getfield (C := xm_C9) (T := xm_T9) (N := 25) hc xd_64_19 ho rfl (by decide) xm_u9 xl_189) <|
    xl_cons (xk_iload_n hc xd_64_22 rfl) <|
    xl_cons (xk_iaload hc xd_64_23) <|
    xl_cons (xk_if_icmp hc xd_64_24 (by decide)) <|
    xl_cons (xk_aload_n hc xd_64_27 rfl) <|
    xl_cons (xk_getfield (C := xm_C9) (T := xm_T9) (N := 25) hc xd_64_28 ho rfl (by decide) xm_u9 xl_182) <|
    xl_cons (xk_bipush hc xd_64_31 (by decide)) <|
    xl_cons (xk_iload_n hc xd_64_33 rfl) <|
    xl_cons (xk_imul hc xd_64_34) <|
    xl_cons (xk_aload_n hc xd_64_35 rfl) <|
    xl_cons (xk_getfield (C := xm_C9) (T := xm_T9) (N := 25) hc xd_64_36 ho rfl (by decide) xm_u9 xl_190) <|
    xl_cons (xk_bipush hc xd_64_39 (by decide)) <|
    xl_cons (xk_iload_n hc xd_64_41 rfl) <|
    xl_cons (xk_imul hc xd_64_42) <|
    xl_cons (xk_aload_n hc xd_64_43 rfl) <|
    xl_cons (xk_getfield (C := xm_C9) (T := xm_T9) (N := 25) hc xd_64_44 ho rfl (by decide) xm_u9 xl_189) <|
    xl_cons (xk_iload_n hc xd_64_47 rfl) <|
    xl_cons (xk_iaload hc xd_64_48) <|
    xl_cons (xk_callS (Y := xm_y47) ho rfl (by decide) ⟨by decide, by decide⟩ xl_202 hc xd_64_49 rfl xm_nd47 xl_228 xl_229) <|
    xl_cons (xk_ifCond hc xd_64_52 (by decide)) <|
    xl_cons (xk_iload_n hc xd_64_55 rfl) <|
    xl_cons (xk_ireturn hc xd_64_56) <|
    xl_cons (xk_iinc hc xd_64_57 hm rfl (by decide) (by decide)) <|
    xl_cons (xk_goto hc xd_64_60 (by decide)) <|
    xl_cons (xk_iconst hc xd_64_63 (by decide)) <|
    xl_cons (xk_ireturn hc xd_64_64) (xl_nil)
theorem xo_64 : ∀ e ∈ xm_i64, xr_sd xm_P 64 e := xo_64_0
set_option maxRecDepth 100000 in
theorem xo_65_0 : ∀ e ∈ ([(0, 1, .aload_n 0, 0, 0, .null, [], none),
  (1, 3, .getfield 50, 9, 15, .null, [], none),
  (4, 1, .iload_n 1, 1, 0, .null, [], none),
  (5, 1, .iaload, 0, 0, .null, [], none),
  (6, 1, .iconst 2, 0, 0, .int 2, [], none),
  (7, 3, .if_icmp .ne 7, 14, 0, .null, [], none),
  (10, 1, .iconst 1, 0, 0, .int 1, [], none),
  (11, 3, .goto 23, 34, 0, .null, [], none),
  (14, 1, .aload_n 0, 0, 0, .null, [], none),
  (15, 3, .getfield 50, 9, 15, .null, [], none),
  (18, 1, .iload_n 1, 1, 0, .null, [], none),
  (19, 1, .iaload, 0, 0, .null, [], none),
  (20, 1, .iconst 4, 0, 0, .int 4, [], none),
  (21, 3, .if_icmp .ne 12, 33, 0, .null, [], none),
  (24, 1, .aload_n 0, 0, 0, .null, [], none),
  (25, 3, .getfield 53, 9, 16, .null, [], none),
  (28, 1, .iload_n 1, 1, 0, .null, [], none),
  (29, 1, .iaload, 0, 0, .null, [], none),
  (30, 3, .goto 4, 34, 0, .null, [], none),
  (33, 1, .iconst 0, 0, 0, .int 0, [], none),
  (34, 1, .ireturn, 0, 0, .null, [], none)] : List xr_E), xr_sd xm_P 65 e := by
  have hc : xp_cd xm_P 65 = prog_12_method_36_code := rfl
  have ho : xp_own xm_P 65 = "ExchangeTextModel" := rfl
  have hm : xp_ml xm_P 65 = 2 := rfl
  exact xl_cons (xk_aload_n hc xd_65_0 rfl) <|
    xl_cons (xk_getfield (C := xm_C9) (T := xm_T9) (N := 25) hc xd_65_1 ho rfl (by decide) xm_u9 xl_192) <|
    xl_cons (xk_iload_n hc xd_65_4 rfl) <|
    xl_cons (xk_iaload hc xd_65_5) <|
    xl_cons (xk_iconst hc xd_65_6 (by decide)) <|
    xl_cons (xk_if_icmp hc xd_65_7 (by decide)) <|
    xl_cons (xk_iconst hc xd_65_10 (by decide)) <|
    xl_cons (xk_goto hc xd_65_11 (by decide)) <|
    xl_cons (xk_aload_n hc xd_65_14 rfl) <|
    xl_cons (xk_getfield (C := xm_C9) (T := xm_T9) (N := 25) hc xd_65_15 ho rfl (by decide) xm_u9 xl_192) <|
    xl_cons (xk_iload_n hc xd_65_18 rfl) <|
    xl_cons (xk_iaload hc xd_65_19) <|
    xl_cons (xk_iconst hc xd_65_20 (by decide)) <|
    xl_cons (xk_if_icmp hc xd_65_21 (by decide)) <|
    xl_cons (xk_aload_n hc xd_65_24 rfl) <|
    xl_cons (xk_getfield (C := xm_C9) (T := xm_T9) (N := 25) hc xd_65_25 ho rfl (by decide) xm_u9 xl_193) <|
    xl_cons (xk_iload_n hc xd_65_28 rfl) <|
    xl_cons (xk_iaload hc xd_65_29) <|
    xl_cons (xk_goto hc xd_65_30 (by decide)) <|
    xl_cons (xk_iconst hc xd_65_33 (by decide)) <|
    xl_cons (xk_ireturn hc xd_65_34) (xl_nil)
theorem xo_65 : ∀ e ∈ xm_i65, xr_sd xm_P 65 e := xo_65_0
set_option maxRecDepth 100000 in
theorem xo_66_0 : ∀ e ∈ ([(0, 1, .aload_n 0, 0, 0, .null, [], none),
  (1, 1, .iconst 0, 0, 0, .int 0, [], none),
  (2, 1, .aload_n 0, 0, 0, .null, [], none),
  (3, 3, .getfield 50, 9, 15, .null, [], none),
  (6, 1, .iload_n 1, 1, 0, .null, [], none),
  (7, 1, .iaload, 0, 0, .null, [], none),
  (8, 1, .iconst 2, 0, 0, .int 2, [], none),
  (9, 3, .if_icmp .ne 12, 21, 0, .null, [], none),
  (12, 1, .aload_n 0, 0, 0, .null, [], none),
  (13, 3, .getfield 53, 9, 16, .null, [], none),
  (16, 1, .iload_n 1, 1, 0, .null, [], none),
  (17, 1, .iaload, 0, 0, .null, [], none),
  (18, 3, .goto 14, 32, 0, .null, [], none),
  (21, 1, .aload_n 0, 0, 0, .null, [], none),
  (22, 3, .getfield 56, 9, 17, .null, [], none),
  (25, 2, .bipush 20, 0, 0, .int 20, [], none),
  (27, 1, .iload_n 1, 1, 0, .null, [], none),
  (28, 1, .imul, 0, 0, .null, [], none),
  (29, 1, .iload_n 2, 2, 0, .null, [], none),
  (30, 1, .iadd, 0, 0, .null, [], none),
  (31, 1, .iaload, 0, 0, .null, [], none),
  (32, 3, .invokevirtual 143, 50, 3, .retAddr 0, [], none),
  (35, 1, .ireturn, 0, 0, .null, [], none)] : List xr_E), xr_sd xm_P 66 e := by
  have hc : xp_cd xm_P 66 = prog_12_method_37_code := rfl
  have ho : xp_own xm_P 66 = "ExchangeTextModel" := rfl
  have hm : xp_ml xm_P 66 = 3 := rfl
  exact xl_cons (xk_aload_n hc xd_66_0 rfl) <|
    xl_cons (xk_iconst hc xd_66_1 (by decide)) <|
    xl_cons (xk_aload_n hc xd_66_2 rfl) <|
    xl_cons (xk_getfield (C := xm_C9) (T := xm_T9) (N := 25) hc xd_66_3 ho rfl (by decide) xm_u9 xl_192) <|
    xl_cons (xk_iload_n hc xd_66_6 rfl) <|
    xl_cons (xk_iaload hc xd_66_7) <|
    xl_cons (xk_iconst hc xd_66_8 (by decide)) <|
    xl_cons (xk_if_icmp hc xd_66_9 (by decide)) <|
    xl_cons (xk_aload_n hc xd_66_12 rfl) <|
    xl_cons (xk_getfield (C := xm_C9) (T := xm_T9) (N := 25) hc xd_66_13 ho rfl (by decide) xm_u9 xl_193) <|
    xl_cons (xk_iload_n hc xd_66_16 rfl) <|
    xl_cons (xk_iaload hc xd_66_17) <|
    xl_cons (xk_goto hc xd_66_18 (by decide)) <|
    xl_cons (xk_aload_n hc xd_66_21 rfl) <|
    xl_cons (xk_getfield (C := xm_C9) (T := xm_T9) (N := 25) hc xd_66_22 ho rfl (by decide) xm_u9 xl_194) <|
    xl_cons (xk_bipush hc xd_66_25 (by decide)) <|
    xl_cons (xk_iload_n hc xd_66_27 rfl) <|
    xl_cons (xk_imul hc xd_66_28) <|
    xl_cons (xk_iload_n hc xd_66_29 rfl) <|
    xl_cons (xk_iadd hc xd_66_30) <|
    xl_cons (xk_iaload hc xd_66_31) <|
    xl_cons (xk_callV (Y := xm_y50) ho rfl (by decide) ⟨by decide, by decide⟩ xl_202 hc xd_66_32 rfl (b' := 2) rfl xm_nd50 (T := xm_T9) (N := 25) rfl xl_249 xl_250 xl_251) <|
    xl_cons (xk_ireturn hc xd_66_35) (xl_nil)
theorem xo_66 : ∀ e ∈ xm_i66, xr_sd xm_P 66 e := xo_66_0
set_option maxRecDepth 100000 in
theorem xo_67_0 : ∀ e ∈ ([(0, 1, .iconst 0, 0, 0, .int 0, [], none),
  (1, 1, .istore_n 2, 2, 0, .null, [], none),
  (2, 2, .bipush 8, 0, 0, .int 8, [], none),
  (4, 1, .iload_n 1, 1, 0, .null, [], none),
  (5, 1, .imul, 0, 0, .null, [], none),
  (6, 1, .istore_n 3, 3, 0, .null, [], none),
  (7, 1, .iload_n 3, 3, 0, .null, [], none),
  (8, 2, .bipush 8, 0, 0, .int 8, [], none),
  (10, 1, .iload_n 1, 1, 0, .null, [], none),
  (11, 1, .imul, 0, 0, .null, [], none),
  (12, 1, .aload_n 0, 0, 0, .null, [], none),
  (13, 3, .getfield 47, 9, 14, .null, [], none),
  (16, 1, .iload_n 1, 1, 0, .null, [], none),
  (17, 1, .iaload, 0, 0, .null, [], none),
  (18, 1, .iadd, 0, 0, .null, [], none),
  (19, 3, .if_icmp .ge 17, 36, 0, .null, [], none),
  (22, 1, .iload_n 2, 2, 0, .null, [], none),
  (23, 1, .aload_n 0, 0, 0, .null, [], none),
  (24, 1, .iload_n 3, 3, 0, .null, [], none),
  (25, 3, .invokevirtual 171, 65, 2, .retAddr 0, [], none),
  (28, 1, .iadd, 0, 0, .null, [], none),
  (29, 1, .istore_n 2, 2, 0, .null, [], none),
  (30, 3, .iinc 3 1, 3, 0, .int 1, [], none),
  (33, 3, .goto (-26), 7, 0, .null, [], none),
  (36, 1, .iload_n 2, 2, 0, .null, [], none),
  (37, 1, .ireturn, 0, 0, .null, [], none)] : List xr_E), xr_sd xm_P 67 e := by
  have hc : xp_cd xm_P 67 = prog_12_method_38_code := rfl
  have ho : xp_own xm_P 67 = "ExchangeTextModel" := rfl
  have hm : xp_ml xm_P 67 = 4 := rfl
  exact xl_cons (xk_iconst hc xd_67_0 (by decide)) <|
    xl_cons (xk_istore_n hc xd_67_1 hm rfl (by decide)) <|
    xl_cons (xk_bipush hc xd_67_2 (by decide)) <|
    xl_cons (xk_iload_n hc xd_67_4 rfl) <|
    xl_cons (xk_imul hc xd_67_5) <|
    xl_cons (xk_istore_n hc xd_67_6 hm rfl (by decide)) <|
    xl_cons (xk_iload_n hc xd_67_7 rfl) <|
    xl_cons (xk_bipush hc xd_67_8 (by decide)) <|
    xl_cons (xk_iload_n hc xd_67_10 rfl) <|
    xl_cons (xk_imul hc xd_67_11) <|
    xl_cons (xk_aload_n hc xd_67_12 rfl) <|
    xl_cons (xk_getfield (C := xm_C9) (T := xm_T9) (N := 25) hc xd_67_13 ho rfl (by decide) xm_u9 xl_191) <|
    xl_cons (xk_iload_n hc xd_67_16 rfl) <|
    xl_cons (xk_iaload hc xd_67_17) <|
    xl_cons (xk_iadd hc xd_67_18) <|
    xl_cons (xk_if_icmp hc xd_67_19 (by decide)) <|
    xl_cons (xk_iload_n hc xd_67_22 rfl) <|
    xl_cons (xk_aload_n hc xd_67_23 rfl) <|
    xl_cons (xk_iload_n hc xd_67_24 rfl) <|
    xl_cons (xk_callV (Y := xm_y65) ho rfl (by decide) ⟨by decide, by decide⟩ xl_202 hc xd_67_25 rfl (b' := 1) rfl xm_nd65 (T := xm_T9) (N := 25) rfl xl_274 xl_275 xl_276) <|
    xl_cons (xk_iadd hc xd_67_28) <|
    xl_cons (xk_istore_n hc xd_67_29 hm rfl (by decide)) <|
    xl_cons (xk_iinc hc xd_67_30 hm rfl (by decide) (by decide)) <|
    xl_cons (xk_goto hc xd_67_33 (by decide)) <|
    xl_cons (xk_iload_n hc xd_67_36 rfl) <|
    xl_cons (xk_ireturn hc xd_67_37) (xl_nil)
theorem xo_67 : ∀ e ∈ xm_i67, xr_sd xm_P 67 e := xo_67_0
set_option maxRecDepth 100000 in
theorem xo_68_0 : ∀ e ∈ ([(0, 1, .iconst 0, 0, 0, .int 0, [], none),
  (1, 1, .istore_n 1, 1, 0, .null, [], none),
  (2, 1, .iload_n 1, 1, 0, .null, [], none),
  (3, 1, .aload_n 0, 0, 0, .null, [], none),
  (4, 3, .getfield 35, 9, 10, .null, [], none),
  (7, 1, .iconst 0, 0, 0, .int 0, [], none),
  (8, 1, .iaload, 0, 0, .null, [], none),
  (9, 3, .if_icmp .ge 76, 85, 0, .null, [], none),
  (12, 1, .aload_n 0, 0, 0, .null, [], none),
  (13, 3, .getfield 65, 9, 23, .null, [], none),
  (16, 1, .iload_n 1, 1, 0, .null, [], none),
  (17, 1, .lconst 0, 0, 0, .long 0, [], none),
  (18, 1, .lastore, 0, 0, .null, [], none),
  (19, 2, .bipush 8, 0, 0, .int 8, [], none),
  (21, 1, .iload_n 1, 1, 0, .null, [], none),
  (22, 1, .imul, 0, 0, .null, [], none),
  (23, 1, .istore_n 2, 2, 0, .null, [], none),
  (24, 1, .iload_n 2, 2, 0, .null, [], none),
  (25, 2, .bipush 8, 0, 0, .int 8, [], none),
  (27, 1, .iload_n 1, 1, 0, .null, [], none),
  (28, 1, .imul, 0, 0, .null, [], none),
  (29, 1, .aload_n 0, 0, 0, .null, [], none),
  (30, 3, .getfield 47, 9, 14, .null, [], none),
  (33, 1, .iload_n 1, 1, 0, .null, [], none),
  (34, 1, .iaload, 0, 0, .null, [], none),
  (35, 1, .iadd, 0, 0, .null, [], none),
  (36, 3, .if_icmp .ge 43, 79, 0, .null, [], none),
  (39, 1, .iconst 0, 0, 0, .int 0, [], none),
  (40, 1, .istore_n 3, 3, 0, .null, [], none),
  (41, 1, .iload_n 3, 3, 0, .null, [], none),
  (42, 1, .aload_n 0, 0, 0, .null, [], none),
  (43, 1, .iload_n 2, 2, 0, .null, [], none),
  (44, 3, .invokevirtual 171, 65, 2, .retAddr 0, [], none),
  (47, 3, .if_icmp .ge 26, 73, 0, .null, [], none),
  (50, 1, .aload_n 0, 0, 0, .null, [], none),
  (51, 3, .getfield 65, 9, 23, .null, [], none),
  (54, 1, .iload_n 1, 1, 0, .null, [], none),
  (55, 1, .dup2, 0, 0, .null, [], none),
  (56, 1, .laload, 0, 0, .null, [], none),
  (57, 1, .lconst 1, 0, 0, .long 1, [], none)] : List xr_E), xr_sd xm_P 68 e := by
  have hc : xp_cd xm_P 68 = prog_12_method_39_code := rfl
  have ho : xp_own xm_P 68 = "ExchangeTextModel" := rfl
  have hm : xp_ml xm_P 68 = 4 := rfl
  exact xl_cons (xk_iconst hc xd_68_0 (by decide)) <|
    xl_cons (xk_istore_n hc xd_68_1 hm rfl (by decide)) <|
    xl_cons (xk_iload_n hc xd_68_2 rfl) <|
    xl_cons (xk_aload_n hc xd_68_3 rfl) <|
    xl_cons (xk_getfield (C := xm_C9) (T := xm_T9) (N := 25) hc xd_68_4 ho rfl (by decide) xm_u9 xl_187) <|
    xl_cons (xk_iconst hc xd_68_7 (by decide)) <|
    xl_cons (xk_iaload hc xd_68_8) <|
    xl_cons (xk_if_icmp hc xd_68_9 (by decide)) <|
    xl_cons (xk_aload_n hc xd_68_12 rfl) <|
    xl_cons (xk_getfield (C := xm_C9) (T := xm_T9) (N := 25) hc xd_68_13 ho rfl (by decide) xm_u9 xl_198) <|
    xl_cons (xk_iload_n hc xd_68_16 rfl) <|
    xl_cons (xk_lconst hc xd_68_17 rfl) <|
    xl_cons (xk_lastore hc xd_68_18) <|
    xl_cons (xk_bipush hc xd_68_19 (by decide)) <|
    xl_cons (xk_iload_n hc xd_68_21 rfl) <|
    xl_cons (xk_imul hc xd_68_22) <|
    xl_cons (xk_istore_n hc xd_68_23 hm rfl (by decide)) <|
    xl_cons (xk_iload_n hc xd_68_24 rfl) <|
    xl_cons (xk_bipush hc xd_68_25 (by decide)) <|
    xl_cons (xk_iload_n hc xd_68_27 rfl) <|
    xl_cons (xk_imul hc xd_68_28) <|
    xl_cons (xk_aload_n hc xd_68_29 rfl) <|
    xl_cons (xk_getfield (C := xm_C9) (T := xm_T9) (N := 25) hc xd_68_30 ho rfl (by decide) xm_u9 xl_191) <|
    xl_cons (xk_iload_n hc xd_68_33 rfl) <|
    xl_cons (xk_iaload hc xd_68_34) <|
    xl_cons (xk_iadd hc xd_68_35) <|
    xl_cons (xk_if_icmp hc xd_68_36 (by decide)) <|
    xl_cons (xk_iconst hc xd_68_39 (by decide)) <|
    xl_cons (xk_istore_n hc xd_68_40 hm rfl (by decide)) <|
    xl_cons (xk_iload_n hc xd_68_41 rfl) <|
    xl_cons (xk_aload_n hc xd_68_42 rfl) <|
    xl_cons (xk_iload_n hc xd_68_43 rfl) <|
    xl_cons (xk_callV (Y := xm_y65) ho rfl (by decide) ⟨by decide, by decide⟩ xl_202 hc xd_68_44 rfl (b' := 1) rfl xm_nd65 (T := xm_T9) (N := 25) rfl xl_274 xl_275 xl_276) <|
    xl_cons (xk_if_icmp hc xd_68_47 (by decide)) <|
    xl_cons (xk_aload_n hc xd_68_50 rfl) <|
    xl_cons (xk_getfield (C := xm_C9) (T := xm_T9) (N := 25) hc xd_68_51 ho rfl (by decide) xm_u9 xl_198) <|
    xl_cons (xk_iload_n hc xd_68_54 rfl) <|
    xl_cons (xk_dup2 hc xd_68_55) <|
    xl_cons (xk_laload hc xd_68_56) <|
    xl_cons (xk_lconst hc xd_68_57 rfl) (xl_nil)
set_option maxRecDepth 100000 in
theorem xo_68_1 : ∀ e ∈ ([(58, 1, .aload_n 0, 0, 0, .null, [], none),
  (59, 1, .iload_n 2, 2, 0, .null, [], none),
  (60, 1, .iload_n 3, 3, 0, .null, [], none),
  (61, 3, .invokevirtual 174, 66, 3, .retAddr 0, [], none),
  (64, 1, .lshl, 0, 0, .null, [], none),
  (65, 1, .lor, 0, 0, .null, [], none),
  (66, 1, .lastore, 0, 0, .null, [], none),
  (67, 3, .iinc 3 1, 3, 0, .int 1, [], none),
  (70, 3, .goto (-29), 41, 0, .null, [], none),
  (73, 3, .iinc 2 1, 2, 0, .int 1, [], none),
  (76, 3, .goto (-52), 24, 0, .null, [], none),
  (79, 3, .iinc 1 1, 1, 0, .int 1, [], none),
  (82, 3, .goto (-80), 2, 0, .null, [], none),
  (85, 1, .return_, 0, 0, .null, [], none)] : List xr_E), xr_sd xm_P 68 e := by
  have hc : xp_cd xm_P 68 = prog_12_method_39_code := rfl
  have ho : xp_own xm_P 68 = "ExchangeTextModel" := rfl
  have hm : xp_ml xm_P 68 = 4 := rfl
  exact xl_cons (xk_aload_n hc xd_68_58 rfl) <|
    xl_cons (xk_iload_n hc xd_68_59 rfl) <|
    xl_cons (xk_iload_n hc xd_68_60 rfl) <|
    xl_cons (xk_callV (Y := xm_y66) ho rfl (by decide) ⟨by decide, by decide⟩ xl_202 hc xd_68_61 rfl (b' := 2) rfl xm_nd66 (T := xm_T9) (N := 25) rfl xl_277 xl_278 xl_279) <|
    xl_cons (xk_lshl hc xd_68_64) <|
    xl_cons (xk_lor hc xd_68_65) <|
    xl_cons (xk_lastore hc xd_68_66) <|
    xl_cons (xk_iinc hc xd_68_67 hm rfl (by decide) (by decide)) <|
    xl_cons (xk_goto hc xd_68_70 (by decide)) <|
    xl_cons (xk_iinc hc xd_68_73 hm rfl (by decide) (by decide)) <|
    xl_cons (xk_goto hc xd_68_76 (by decide)) <|
    xl_cons (xk_iinc hc xd_68_79 hm rfl (by decide) (by decide)) <|
    xl_cons (xk_goto hc xd_68_82 (by decide)) <|
    xl_cons (xk_return_ hc xd_68_85) (xl_nil)
theorem xo_68 : ∀ e ∈ xm_i68, xr_sd xm_P 68 e := xl_app xo_68_0 (xo_68_1)
set_option maxRecDepth 100000 in
theorem xo_69_0 : ∀ e ∈ ([(0, 1, .aload_n 0, 0, 0, .null, [], none),
  (1, 3, .invokevirtual 177, 68, 1, .retAddr 0, [], none),
  (4, 1, .iconst 0, 0, 0, .int 0, [], none),
  (5, 1, .istore_n 1, 1, 0, .null, [], none),
  (6, 1, .iload_n 1, 1, 0, .null, [], none),
  (7, 2, .bipush 40, 0, 0, .int 40, [], none),
  (9, 3, .if_icmp .ge 16, 25, 0, .null, [], none),
  (12, 1, .aload_n 0, 0, 0, .null, [], none),
  (13, 3, .getfield 59, 9, 21, .null, [], none),
  (16, 1, .iload_n 1, 1, 0, .null, [], none),
  (17, 1, .iconst (-1), 0, 0, .int (-1), [], none),
  (18, 1, .iastore, 0, 0, .null, [], none),
  (19, 3, .iinc 1 1, 1, 0, .int 1, [], none),
  (22, 3, .goto (-16), 6, 0, .null, [], none),
  (25, 1, .iconst 1, 0, 0, .int 1, [], none),
  (26, 1, .istore_n 1, 1, 0, .null, [], none),
  (27, 1, .iload_n 1, 1, 0, .null, [], none),
  (28, 3, .ifCond .eq 147, 175, 0, .null, [], none),
  (31, 1, .iconst 0, 0, 0, .int 0, [], none),
  (32, 1, .istore_n 1, 1, 0, .null, [], none),
  (33, 1, .iconst 0, 0, 0, .int 0, [], none),
  (34, 1, .istore_n 2, 2, 0, .null, [], none),
  (35, 1, .iload_n 2, 2, 0, .null, [], none),
  (36, 1, .aload_n 0, 0, 0, .null, [], none),
  (37, 3, .getfield 35, 9, 10, .null, [], none),
  (40, 1, .iconst 0, 0, 0, .int 0, [], none),
  (41, 1, .iaload, 0, 0, .null, [], none),
  (42, 3, .if_icmp .ge 130, 172, 0, .null, [], none),
  (45, 1, .aload_n 0, 0, 0, .null, [], none),
  (46, 3, .getfield 59, 9, 21, .null, [], none),
  (49, 1, .iload_n 2, 2, 0, .null, [], none),
  (50, 1, .iaload, 0, 0, .null, [], none),
  (51, 1, .iconst (-1), 0, 0, .int (-1), [], none),
  (52, 3, .if_icmp .eq 6, 58, 0, .null, [], none),
  (55, 3, .goto 111, 166, 0, .null, [], none),
  (58, 1, .iconst 0, 0, 0, .int 0, [], none),
  (59, 1, .istore_n 3, 3, 0, .null, [], none),
  (60, 1, .iconst 1, 0, 0, .int 1, [], none),
  (61, 2, .istore 4, 4, 0, .null, [], none),
  (63, 1, .iconst 0, 0, 0, .int 0, [], none)] : List xr_E), xr_sd xm_P 69 e := by
  have hc : xp_cd xm_P 69 = prog_12_method_40_code := rfl
  have ho : xp_own xm_P 69 = "ExchangeTextModel" := rfl
  have hm : xp_ml xm_P 69 = 6 := rfl
  exact xl_cons (xk_aload_n hc xd_69_0 rfl) <|
    xl_cons (xk_callV (Y := xm_y68) ho rfl (by decide) ⟨by decide, by decide⟩ xl_202 hc xd_69_1 rfl (b' := 0) rfl xm_nd68 (T := xm_T9) (N := 25) rfl xl_280 xl_281 xl_282) <|
    xl_cons (xk_iconst hc xd_69_4 (by decide)) <|
    xl_cons (xk_istore_n hc xd_69_5 hm rfl (by decide)) <|
    xl_cons (xk_iload_n hc xd_69_6 rfl) <|
    xl_cons (xk_bipush hc xd_69_7 (by decide)) <|
    xl_cons (xk_if_icmp hc xd_69_9 (by decide)) <|
    xl_cons (xk_aload_n hc xd_69_12 rfl) <|
    xl_cons (xk_getfield (C := xm_C9) (T := xm_T9) (N := 25) hc xd_69_13 ho rfl (by decide) xm_u9 xl_195) <|
    xl_cons (xk_iload_n hc xd_69_16 rfl) <|
    xl_cons (xk_iconst hc xd_69_17 (by decide)) <|
    xl_cons (xk_iastore hc xd_69_18) <|
    xl_cons (xk_iinc hc xd_69_19 hm rfl (by decide) (by decide)) <|
    xl_cons (xk_goto hc xd_69_22 (by decide)) <|
    xl_cons (xk_iconst hc xd_69_25 (by decide)) <|
    xl_cons (xk_istore_n hc xd_69_26 hm rfl (by decide)) <|
    xl_cons (xk_iload_n hc xd_69_27 rfl) <|
    xl_cons (xk_ifCond hc xd_69_28 (by decide)) <|
    xl_cons (xk_iconst hc xd_69_31 (by decide)) <|
    xl_cons (xk_istore_n hc xd_69_32 hm rfl (by decide)) <|
    xl_cons (xk_iconst hc xd_69_33 (by decide)) <|
    xl_cons (xk_istore_n hc xd_69_34 hm rfl (by decide)) <|
    xl_cons (xk_iload_n hc xd_69_35 rfl) <|
    xl_cons (xk_aload_n hc xd_69_36 rfl) <|
    xl_cons (xk_getfield (C := xm_C9) (T := xm_T9) (N := 25) hc xd_69_37 ho rfl (by decide) xm_u9 xl_187) <|
    xl_cons (xk_iconst hc xd_69_40 (by decide)) <|
    xl_cons (xk_iaload hc xd_69_41) <|
    xl_cons (xk_if_icmp hc xd_69_42 (by decide)) <|
    xl_cons (xk_aload_n hc xd_69_45 rfl) <|
    xl_cons (xk_getfield (C := xm_C9) (T := xm_T9) (N := 25) hc xd_69_46 ho rfl (by decide) xm_u9 xl_195) <|
    xl_cons (xk_iload_n hc xd_69_49 rfl) <|
    xl_cons (xk_iaload hc xd_69_50) <|
    xl_cons (xk_iconst hc xd_69_51 (by decide)) <|
    xl_cons (xk_if_icmp hc xd_69_52 (by decide)) <|
    xl_cons (xk_goto hc xd_69_55 (by decide)) <|
    xl_cons (xk_iconst hc xd_69_58 (by decide)) <|
    xl_cons (xk_istore_n hc xd_69_59 hm rfl (by decide)) <|
    xl_cons (xk_iconst hc xd_69_60 (by decide)) <|
    xl_cons (xk_istore hc xd_69_61 hm rfl (by decide)) <|
    xl_cons (xk_iconst hc xd_69_63 (by decide)) (xl_nil)
set_option maxRecDepth 100000 in
theorem xo_69_1 : ∀ e ∈ ([(64, 2, .istore 5, 5, 0, .null, [], none),
  (66, 2, .iload 5, 5, 0, .null, [], none),
  (68, 1, .aload_n 0, 0, 0, .null, [], none),
  (69, 3, .getfield 35, 9, 10, .null, [], none),
  (72, 1, .iconst 0, 0, 0, .int 0, [], none),
  (73, 1, .iaload, 0, 0, .null, [], none),
  (74, 3, .if_icmp .ge 78, 152, 0, .null, [], none),
  (77, 1, .aload_n 0, 0, 0, .null, [], none),
  (78, 3, .getfield 65, 9, 23, .null, [], none),
  (81, 1, .iload_n 2, 2, 0, .null, [], none),
  (82, 1, .laload, 0, 0, .null, [], none),
  (83, 2, .iload 5, 5, 0, .null, [], none),
  (85, 1, .lshr, 0, 0, .null, [], none),
  (86, 1, .lconst 1, 0, 0, .long 1, [], none),
  (87, 1, .land, 0, 0, .null, [], none),
  (88, 1, .lconst 0, 0, 0, .long 0, [], none),
  (89, 1, .lcmp, 0, 0, .null, [], none),
  (90, 3, .ifCond .ne 6, 96, 0, .null, [], none),
  (93, 3, .goto 53, 146, 0, .null, [], none),
  (96, 2, .iload 4, 4, 0, .null, [], none),
  (98, 3, .ifCond .eq 18, 116, 0, .null, [], none),
  (101, 1, .aload_n 0, 0, 0, .null, [], none),
  (102, 3, .getfield 59, 9, 21, .null, [], none),
  (105, 2, .iload 5, 5, 0, .null, [], none),
  (107, 1, .iaload, 0, 0, .null, [], none),
  (108, 1, .iconst (-1), 0, 0, .int (-1), [], none),
  (109, 3, .if_icmp .eq 7, 116, 0, .null, [], none),
  (112, 1, .iconst 1, 0, 0, .int 1, [], none),
  (113, 3, .goto 4, 117, 0, .null, [], none),
  (116, 1, .iconst 0, 0, 0, .int 0, [], none),
  (117, 2, .istore 4, 4, 0, .null, [], none),
  (119, 1, .aload_n 0, 0, 0, .null, [], none),
  (120, 3, .getfield 59, 9, 21, .null, [], none),
  (123, 2, .iload 5, 5, 0, .null, [], none),
  (125, 1, .iaload, 0, 0, .null, [], none),
  (126, 1, .iconst 1, 0, 0, .int 1, [], none),
  (127, 1, .iadd, 0, 0, .null, [], none),
  (128, 1, .iload_n 3, 3, 0, .null, [], none),
  (129, 3, .if_icmp .le 15, 144, 0, .null, [], none),
  (132, 1, .aload_n 0, 0, 0, .null, [], none)] : List xr_E), xr_sd xm_P 69 e := by
  have hc : xp_cd xm_P 69 = prog_12_method_40_code := rfl
  have ho : xp_own xm_P 69 = "ExchangeTextModel" := rfl
  have hm : xp_ml xm_P 69 = 6 := rfl
  exact xl_cons (xk_istore hc xd_69_64 hm rfl (by decide)) <|
    xl_cons (xk_iload hc xd_69_66 rfl) <|
    xl_cons (xk_aload_n hc xd_69_68 rfl) <|
    xl_cons (xk_getfield (C := xm_C9) (T := xm_T9) (N := 25) hc xd_69_69 ho rfl (by decide) xm_u9 xl_187) <|
    xl_cons (xk_iconst hc xd_69_72 (by decide)) <|
    xl_cons (xk_iaload hc xd_69_73) <|
    xl_cons (xk_if_icmp hc xd_69_74 (by decide)) <|
    xl_cons (xk_aload_n hc xd_69_77 rfl) <|
    xl_cons (xk_getfield (C := xm_C9) (T := xm_T9) (N := 25) hc xd_69_78 ho rfl (by decide) xm_u9 xl_198) <|
    xl_cons (xk_iload_n hc xd_69_81 rfl) <|
    xl_cons (xk_laload hc xd_69_82) <|
    xl_cons (xk_iload hc xd_69_83 rfl) <|
    xl_cons (xk_lshr hc xd_69_85) <|
    xl_cons (xk_lconst hc xd_69_86 rfl) <|
    xl_cons (xk_land hc xd_69_87) <|
    xl_cons (xk_lconst hc xd_69_88 rfl) <|
    xl_cons (xk_lcmp hc xd_69_89) <|
    xl_cons (xk_ifCond hc xd_69_90 (by decide)) <|
    xl_cons (xk_goto hc xd_69_93 (by decide)) <|
    xl_cons (xk_iload hc xd_69_96 rfl) <|
    xl_cons (xk_ifCond hc xd_69_98 (by decide)) <|
    xl_cons (xk_aload_n hc xd_69_101 rfl) <|
    xl_cons (xk_getfield (C := xm_C9) (T := xm_T9) (N := 25) hc xd_69_102 ho rfl (by decide) xm_u9 xl_195) <|
    xl_cons (xk_iload hc xd_69_105 rfl) <|
    xl_cons (xk_iaload hc xd_69_107) <|
    xl_cons (xk_iconst hc xd_69_108 (by decide)) <|
    xl_cons (xk_if_icmp hc xd_69_109 (by decide)) <|
    xl_cons (xk_iconst hc xd_69_112 (by decide)) <|
    xl_cons (xk_goto hc xd_69_113 (by decide)) <|
    xl_cons (xk_iconst hc xd_69_116 (by decide)) <|
    xl_cons (xk_istore hc xd_69_117 hm rfl (by decide)) <|
    xl_cons (xk_aload_n hc xd_69_119 rfl) <|
    xl_cons (xk_getfield (C := xm_C9) (T := xm_T9) (N := 25) hc xd_69_120 ho rfl (by decide) xm_u9 xl_195) <|
    xl_cons (xk_iload hc xd_69_123 rfl) <|
    xl_cons (xk_iaload hc xd_69_125) <|
    xl_cons (xk_iconst hc xd_69_126 (by decide)) <|
    xl_cons (xk_iadd hc xd_69_127) <|
    xl_cons (xk_iload_n hc xd_69_128 rfl) <|
    xl_cons (xk_if_icmp hc xd_69_129 (by decide)) <|
    xl_cons (xk_aload_n hc xd_69_132 rfl) (xl_nil)
set_option maxRecDepth 100000 in
theorem xo_69_2 : ∀ e ∈ ([(133, 3, .getfield 59, 9, 21, .null, [], none),
  (136, 2, .iload 5, 5, 0, .null, [], none),
  (138, 1, .iaload, 0, 0, .null, [], none),
  (139, 1, .iconst 1, 0, 0, .int 1, [], none),
  (140, 1, .iadd, 0, 0, .null, [], none),
  (141, 3, .goto 4, 145, 0, .null, [], none),
  (144, 1, .iload_n 3, 3, 0, .null, [], none),
  (145, 1, .istore_n 3, 3, 0, .null, [], none),
  (146, 3, .iinc 5 1, 5, 0, .int 1, [], none),
  (149, 3, .goto (-83), 66, 0, .null, [], none),
  (152, 2, .iload 4, 4, 0, .null, [], none),
  (154, 3, .ifCond .eq 12, 166, 0, .null, [], none),
  (157, 1, .aload_n 0, 0, 0, .null, [], none),
  (158, 3, .getfield 59, 9, 21, .null, [], none),
  (161, 1, .iload_n 2, 2, 0, .null, [], none),
  (162, 1, .iload_n 3, 3, 0, .null, [], none),
  (163, 1, .iastore, 0, 0, .null, [], none),
  (164, 1, .iconst 1, 0, 0, .int 1, [], none),
  (165, 1, .istore_n 1, 1, 0, .null, [], none),
  (166, 3, .iinc 2 1, 2, 0, .int 1, [], none),
  (169, 3, .goto (-134), 35, 0, .null, [], none),
  (172, 3, .goto (-145), 27, 0, .null, [], none),
  (175, 1, .return_, 0, 0, .null, [], none)] : List xr_E), xr_sd xm_P 69 e := by
  have hc : xp_cd xm_P 69 = prog_12_method_40_code := rfl
  have ho : xp_own xm_P 69 = "ExchangeTextModel" := rfl
  have hm : xp_ml xm_P 69 = 6 := rfl
  exact xl_cons (xk_getfield (C := xm_C9) (T := xm_T9) (N := 25) hc xd_69_133 ho rfl (by decide) xm_u9 xl_195) <|
    xl_cons (xk_iload hc xd_69_136 rfl) <|
    xl_cons (xk_iaload hc xd_69_138) <|
    xl_cons (xk_iconst hc xd_69_139 (by decide)) <|
    xl_cons (xk_iadd hc xd_69_140) <|
    xl_cons (xk_goto hc xd_69_141 (by decide)) <|
    xl_cons (xk_iload_n hc xd_69_144 rfl) <|
    xl_cons (xk_istore_n hc xd_69_145 hm rfl (by decide)) <|
    xl_cons (xk_iinc hc xd_69_146 hm rfl (by decide) (by decide)) <|
    xl_cons (xk_goto hc xd_69_149 (by decide)) <|
    xl_cons (xk_iload hc xd_69_152 rfl) <|
    xl_cons (xk_ifCond hc xd_69_154 (by decide)) <|
    xl_cons (xk_aload_n hc xd_69_157 rfl) <|
    xl_cons (xk_getfield (C := xm_C9) (T := xm_T9) (N := 25) hc xd_69_158 ho rfl (by decide) xm_u9 xl_195) <|
    xl_cons (xk_iload_n hc xd_69_161 rfl) <|
    xl_cons (xk_iload_n hc xd_69_162 rfl) <|
    xl_cons (xk_iastore hc xd_69_163) <|
    xl_cons (xk_iconst hc xd_69_164 (by decide)) <|
    xl_cons (xk_istore_n hc xd_69_165 hm rfl (by decide)) <|
    xl_cons (xk_iinc hc xd_69_166 hm rfl (by decide) (by decide)) <|
    xl_cons (xk_goto hc xd_69_169 (by decide)) <|
    xl_cons (xk_goto hc xd_69_172 (by decide)) <|
    xl_cons (xk_return_ hc xd_69_175) (xl_nil)
theorem xo_69 : ∀ e ∈ xm_i69, xr_sd xm_P 69 e := xl_app xo_69_0 (xl_app xo_69_1 (xo_69_2))
set_option maxRecDepth 100000 in
theorem xo_70_0 : ∀ e ∈ ([(0, 1, .aload_n 0, 0, 0, .null, [], none),
  (1, 1, .iconst 0, 0, 0, .int 0, [], none),
  (2, 3, .putfield 69, 9, 0, .null, [], none),
  (5, 1, .aload_n 0, 0, 0, .null, [], none),
  (6, 1, .iconst 0, 0, 0, .int 0, [], none),
  (7, 1, .iload_n 1, 1, 0, .null, [], none),
  (8, 3, .invokevirtual 143, 50, 3, .retAddr 0, [], none),
  (11, 1, .istore_n 3, 3, 0, .null, [], none),
  (12, 1, .aload_n 0, 0, 0, .null, [], none),
  (13, 1, .iload_n 3, 3, 0, .null, [], none),
  (14, 1, .iconst (-1), 0, 0, .int (-1), [], none),
  (15, 3, .if_icmp .eq 12, 27, 0, .null, [], none),
  (18, 1, .iload_n 2, 2, 0, .null, [], none),
  (19, 3, .ifCond .lt 8, 27, 0, .null, [], none),
  (22, 1, .iload_n 2, 2, 0, .null, [], none),
  (23, 1, .iconst 3, 0, 0, .int 3, [], none),
  (24, 3, .if_icmp .le 7, 31, 0, .null, [], none),
  (27, 1, .iconst 1, 0, 0, .int 1, [], none),
  (28, 3, .goto 4, 32, 0, .null, [], none),
  (31, 1, .iconst 0, 0, 0, .int 0, [], none),
  (32, 1, .iconst 1, 0, 0, .int 1, [], none),
  (33, 3, .invokevirtual 75, 32, 3, .retAddr 0, [], none),
  (36, 3, .ifCond .eq 5, 41, 0, .null, [], none),
  (39, 1, .iconst 0, 0, 0, .int 0, [], none),
  (40, 1, .ireturn, 0, 0, .null, [], none),
  (41, 1, .aload_n 0, 0, 0, .null, [], none),
  (42, 3, .invokevirtual 180, 69, 1, .retAddr 0, [], none),
  (45, 1, .iload_n 2, 2, 0, .null, [], none),
  (46, 3, .ifCond .ne 11, 57, 0, .null, [], none),
  (49, 1, .aload_n 0, 0, 0, .null, [], none),
  (50, 1, .iload_n 3, 3, 0, .null, [], none),
  (51, 3, .invokevirtual 183, 64, 2, .retAddr 0, [], none),
  (54, 3, .goto 36, 90, 0, .null, [], none),
  (57, 1, .iload_n 2, 2, 0, .null, [], none),
  (58, 1, .iconst 1, 0, 0, .int 1, [], none),
  (59, 3, .if_icmp .ne 12, 71, 0, .null, [], none),
  (62, 1, .aload_n 0, 0, 0, .null, [], none),
  (63, 3, .getfield 47, 9, 14, .null, [], none),
  (66, 1, .iload_n 3, 3, 0, .null, [], none),
  (67, 1, .iaload, 0, 0, .null, [], none)] : List xr_E), xr_sd xm_P 70 e := by
  have hc : xp_cd xm_P 70 = prog_12_method_41_code := rfl
  have ho : xp_own xm_P 70 = "ExchangeTextModel" := rfl
  have hm : xp_ml xm_P 70 = 4 := rfl
  exact xl_cons (xk_aload_n hc xd_70_0 rfl) <|
    xl_cons (xk_iconst hc xd_70_1 (by decide)) <|
    xl_cons (xk_putfield (C := xm_C9) (T := xm_T9) (N := 25) (ty := xm_ty9) hc xd_70_2 ho rfl (by decide) xm_u9 xm_tk9 rfl xm_nm9 xl_199 rfl) <|
    xl_cons (xk_aload_n hc xd_70_5 rfl) <|
    xl_cons (xk_iconst hc xd_70_6 (by decide)) <|
    xl_cons (xk_iload_n hc xd_70_7 rfl) <|
    xl_cons (xk_callV (Y := xm_y50) ho rfl (by decide) ⟨by decide, by decide⟩ xl_202 hc xd_70_8 rfl (b' := 2) rfl xm_nd50 (T := xm_T9) (N := 25) rfl xl_249 xl_250 xl_251) <|
    xl_cons (xk_istore_n hc xd_70_11 hm rfl (by decide)) <|
    xl_cons (xk_aload_n hc xd_70_12 rfl) <|
    xl_cons (xk_iload_n hc xd_70_13 rfl) <|
    xl_cons (xk_iconst hc xd_70_14 (by decide)) <|
    xl_cons (xk_if_icmp hc xd_70_15 (by decide)) <|
    xl_cons (xk_iload_n hc xd_70_18 rfl) <|
    xl_cons (xk_ifCond hc xd_70_19 (by decide)) <|
    xl_cons (xk_iload_n hc xd_70_22 rfl) <|
    xl_cons (xk_iconst hc xd_70_23 (by decide)) <|
    xl_cons (xk_if_icmp hc xd_70_24 (by decide)) <|
    xl_cons (xk_iconst hc xd_70_27 (by decide)) <|
    xl_cons (xk_goto hc xd_70_28 (by decide)) <|
    xl_cons (xk_iconst hc xd_70_31 (by decide)) <|
    xl_cons (xk_iconst hc xd_70_32 (by decide)) <|
    xl_cons (xk_callV (Y := xm_y32) ho rfl (by decide) ⟨by decide, by decide⟩ xl_202 hc xd_70_33 rfl (b' := 2) rfl xm_nd32 (T := xm_T9) (N := 25) rfl xl_201 xl_203 xl_204) <|
    xl_cons (xk_ifCond hc xd_70_36 (by decide)) <|
    xl_cons (xk_iconst hc xd_70_39 (by decide)) <|
    xl_cons (xk_ireturn hc xd_70_40) <|
    xl_cons (xk_aload_n hc xd_70_41 rfl) <|
    xl_cons (xk_callV (Y := xm_y69) ho rfl (by decide) ⟨by decide, by decide⟩ xl_202 hc xd_70_42 rfl (b' := 0) rfl xm_nd69 (T := xm_T9) (N := 25) rfl xl_283 xl_284 xl_285) <|
    xl_cons (xk_iload_n hc xd_70_45 rfl) <|
    xl_cons (xk_ifCond hc xd_70_46 (by decide)) <|
    xl_cons (xk_aload_n hc xd_70_49 rfl) <|
    xl_cons (xk_iload_n hc xd_70_50 rfl) <|
    xl_cons (xk_callV (Y := xm_y64) ho rfl (by decide) ⟨by decide, by decide⟩ xl_202 hc xd_70_51 rfl (b' := 1) rfl xm_nd64 (T := xm_T9) (N := 25) rfl xl_286 xl_287 xl_288) <|
    xl_cons (xk_goto hc xd_70_54 (by decide)) <|
    xl_cons (xk_iload_n hc xd_70_57 rfl) <|
    xl_cons (xk_iconst hc xd_70_58 (by decide)) <|
    xl_cons (xk_if_icmp hc xd_70_59 (by decide)) <|
    xl_cons (xk_aload_n hc xd_70_62 rfl) <|
    xl_cons (xk_getfield (C := xm_C9) (T := xm_T9) (N := 25) hc xd_70_63 ho rfl (by decide) xm_u9 xl_191) <|
    xl_cons (xk_iload_n hc xd_70_66 rfl) <|
    xl_cons (xk_iaload hc xd_70_67) (xl_nil)
set_option maxRecDepth 100000 in
theorem xo_70_1 : ∀ e ∈ ([(68, 3, .goto 22, 90, 0, .null, [], none),
  (71, 1, .iload_n 2, 2, 0, .null, [], none),
  (72, 1, .iconst 2, 0, 0, .int 2, [], none),
  (73, 3, .if_icmp .ne 11, 84, 0, .null, [], none),
  (76, 1, .aload_n 0, 0, 0, .null, [], none),
  (77, 1, .iload_n 3, 3, 0, .null, [], none),
  (78, 3, .invokevirtual 186, 67, 2, .retAddr 0, [], none),
  (81, 3, .goto 9, 90, 0, .null, [], none),
  (84, 1, .aload_n 0, 0, 0, .null, [], none),
  (85, 3, .getfield 59, 9, 21, .null, [], none),
  (88, 1, .iload_n 3, 3, 0, .null, [], none),
  (89, 1, .iaload, 0, 0, .null, [], none),
  (90, 1, .ireturn, 0, 0, .null, [], none)] : List xr_E), xr_sd xm_P 70 e := by
  have hc : xp_cd xm_P 70 = prog_12_method_41_code := rfl
  have ho : xp_own xm_P 70 = "ExchangeTextModel" := rfl
  have hm : xp_ml xm_P 70 = 4 := rfl
  exact xl_cons (xk_goto hc xd_70_68 (by decide)) <|
    xl_cons (xk_iload_n hc xd_70_71 rfl) <|
    xl_cons (xk_iconst hc xd_70_72 (by decide)) <|
    xl_cons (xk_if_icmp hc xd_70_73 (by decide)) <|
    xl_cons (xk_aload_n hc xd_70_76 rfl) <|
    xl_cons (xk_iload_n hc xd_70_77 rfl) <|
    xl_cons (xk_callV (Y := xm_y67) ho rfl (by decide) ⟨by decide, by decide⟩ xl_202 hc xd_70_78 rfl (b' := 1) rfl xm_nd67 (T := xm_T9) (N := 25) rfl xl_289 xl_290 xl_291) <|
    xl_cons (xk_goto hc xd_70_81 (by decide)) <|
    xl_cons (xk_aload_n hc xd_70_84 rfl) <|
    xl_cons (xk_getfield (C := xm_C9) (T := xm_T9) (N := 25) hc xd_70_85 ho rfl (by decide) xm_u9 xl_195) <|
    xl_cons (xk_iload_n hc xd_70_88 rfl) <|
    xl_cons (xk_iaload hc xd_70_89) <|
    xl_cons (xk_ireturn hc xd_70_90) (xl_nil)
theorem xo_70 : ∀ e ∈ xm_i70, xr_sd xm_P 70 e := xl_app xo_70_0 (xo_70_1)
set_option maxRecDepth 100000 in
theorem xo_71_0 : ∀ e ∈ ([(0, 1, .aload_n 0, 0, 0, .null, [], none),
  (1, 1, .iconst 0, 0, 0, .int 0, [], none),
  (2, 1, .iload_n 1, 1, 0, .null, [], none),
  (3, 3, .invokevirtual 143, 50, 3, .retAddr 0, [], none),
  (6, 1, .istore_n 3, 3, 0, .null, [], none),
  (7, 1, .iload_n 3, 3, 0, .null, [], none),
  (8, 1, .iconst (-1), 0, 0, .int (-1), [], none),
  (9, 3, .if_icmp .eq 17, 26, 0, .null, [], none),
  (12, 1, .iload_n 2, 2, 0, .null, [], none),
  (13, 3, .ifCond .lt 13, 26, 0, .null, [], none),
  (16, 1, .iload_n 2, 2, 0, .null, [], none),
  (17, 1, .aload_n 0, 0, 0, .null, [], none),
  (18, 3, .getfield 47, 9, 14, .null, [], none),
  (21, 1, .iload_n 3, 3, 0, .null, [], none),
  (22, 1, .iaload, 0, 0, .null, [], none),
  (23, 3, .if_icmp .lt 7, 30, 0, .null, [], none),
  (26, 1, .iconst (-1), 0, 0, .int (-1), [], none),
  (27, 3, .goto 9, 36, 0, .null, [], none),
  (30, 2, .bipush 8, 0, 0, .int 8, [], none),
  (32, 1, .iload_n 3, 3, 0, .null, [], none),
  (33, 1, .imul, 0, 0, .null, [], none),
  (34, 1, .iload_n 2, 2, 0, .null, [], none),
  (35, 1, .iadd, 0, 0, .null, [], none),
  (36, 1, .ireturn, 0, 0, .null, [], none)] : List xr_E), xr_sd xm_P 71 e := by
  have hc : xp_cd xm_P 71 = prog_12_method_42_code := rfl
  have ho : xp_own xm_P 71 = "ExchangeTextModel" := rfl
  have hm : xp_ml xm_P 71 = 4 := rfl
  exact xl_cons (xk_aload_n hc xd_71_0 rfl) <|
    xl_cons (xk_iconst hc xd_71_1 (by decide)) <|
    xl_cons (xk_iload_n hc xd_71_2 rfl) <|
    xl_cons (xk_callV (Y := xm_y50) ho rfl (by decide) ⟨by decide, by decide⟩ xl_202 hc xd_71_3 rfl (b' := 2) rfl xm_nd50 (T := xm_T9) (N := 25) rfl xl_249 xl_250 xl_251) <|
    xl_cons (xk_istore_n hc xd_71_6 hm rfl (by decide)) <|
    xl_cons (xk_iload_n hc xd_71_7 rfl) <|
    xl_cons (xk_iconst hc xd_71_8 (by decide)) <|
    xl_cons (xk_if_icmp hc xd_71_9 (by decide)) <|
    xl_cons (xk_iload_n hc xd_71_12 rfl) <|
    xl_cons (xk_ifCond hc xd_71_13 (by decide)) <|
    xl_cons (xk_iload_n hc xd_71_16 rfl) <|
    xl_cons (xk_aload_n hc xd_71_17 rfl) <|
    xl_cons (xk_getfield (C := xm_C9) (T := xm_T9) (N := 25) hc xd_71_18 ho rfl (by decide) xm_u9 xl_191) <|
    xl_cons (xk_iload_n hc xd_71_21 rfl) <|
    xl_cons (xk_iaload hc xd_71_22) <|
    xl_cons (xk_if_icmp hc xd_71_23 (by decide)) <|
    xl_cons (xk_iconst hc xd_71_26 (by decide)) <|
    xl_cons (xk_goto hc xd_71_27 (by decide)) <|
    xl_cons (xk_bipush hc xd_71_30 (by decide)) <|
    xl_cons (xk_iload_n hc xd_71_32 rfl) <|
    xl_cons (xk_imul hc xd_71_33) <|
    xl_cons (xk_iload_n hc xd_71_34 rfl) <|
    xl_cons (xk_iadd hc xd_71_35) <|
    xl_cons (xk_ireturn hc xd_71_36) (xl_nil)
theorem xo_71 : ∀ e ∈ xm_i71, xr_sd xm_P 71 e := xo_71_0
set_option maxRecDepth 100000 in
theorem xo_72_0 : ∀ e ∈ ([(0, 1, .aload_n 0, 0, 0, .null, [], none),
  (1, 1, .iconst 0, 0, 0, .int 0, [], none),
  (2, 3, .putfield 69, 9, 0, .null, [], none),
  (5, 1, .aload_n 0, 0, 0, .null, [], none),
  (6, 1, .iload_n 1, 1, 0, .null, [], none),
  (7, 1, .iload_n 2, 2, 0, .null, [], none),
  (8, 3, .invokevirtual 189, 71, 3, .retAddr 0, [], none),
  (11, 2, .istore 4, 4, 0, .null, [], none),
  (13, 1, .aload_n 0, 0, 0, .null, [], none),
  (14, 2, .iload 4, 4, 0, .null, [], none),
  (16, 1, .iconst (-1), 0, 0, .int (-1), [], none),
  (17, 3, .if_icmp .eq 12, 29, 0, .null, [], none),
  (20, 1, .iload_n 3, 3, 0, .null, [], none),
  (21, 3, .ifCond .lt 8, 29, 0, .null, [], none),
  (24, 1, .iload_n 3, 3, 0, .null, [], none),
  (25, 1, .iconst 1, 0, 0, .int 1, [], none),
  (26, 3, .if_icmp .le 7, 33, 0, .null, [], none),
  (29, 1, .iconst 1, 0, 0, .int 1, [], none),
  (30, 3, .goto 4, 34, 0, .null, [], none),
  (33, 1, .iconst 0, 0, 0, .int 0, [], none),
  (34, 1, .iconst 1, 0, 0, .int 1, [], none),
  (35, 3, .invokevirtual 75, 32, 3, .retAddr 0, [], none),
  (38, 3, .ifCond .eq 5, 43, 0, .null, [], none),
  (41, 1, .iconst 0, 0, 0, .int 0, [], none),
  (42, 1, .ireturn, 0, 0, .null, [], none),
  (43, 1, .iload_n 3, 3, 0, .null, [], none),
  (44, 3, .ifCond .ne 13, 57, 0, .null, [], none),
  (47, 1, .aload_n 0, 0, 0, .null, [], none),
  (48, 3, .getfield 50, 9, 15, .null, [], none),
  (51, 2, .iload 4, 4, 0, .null, [], none),
  (53, 1, .iaload, 0, 0, .null, [], none),
  (54, 3, .goto 10, 64, 0, .null, [], none),
  (57, 1, .aload_n 0, 0, 0, .null, [], none),
  (58, 3, .getfield 53, 9, 16, .null, [], none),
  (61, 2, .iload 4, 4, 0, .null, [], none),
  (63, 1, .iaload, 0, 0, .null, [], none),
  (64, 1, .ireturn, 0, 0, .null, [], none)] : List xr_E), xr_sd xm_P 72 e := by
  have hc : xp_cd xm_P 72 = prog_12_method_43_code := rfl
  have ho : xp_own xm_P 72 = "ExchangeTextModel" := rfl
  have hm : xp_ml xm_P 72 = 5 := rfl
  exact xl_cons (xk_aload_n hc xd_72_0 rfl) <|
    xl_cons (xk_iconst hc xd_72_1 (by decide)) <|
    xl_cons (xk_putfield (C := xm_C9) (T := xm_T9) (N := 25) (ty := xm_ty9) hc xd_72_2 ho rfl (by decide) xm_u9 xm_tk9 rfl xm_nm9 xl_199 rfl) <|
    xl_cons (xk_aload_n hc xd_72_5 rfl) <|
    xl_cons (xk_iload_n hc xd_72_6 rfl) <|
    xl_cons (xk_iload_n hc xd_72_7 rfl) <|
    xl_cons (xk_callV (Y := xm_y71) ho rfl (by decide) ⟨by decide, by decide⟩ xl_202 hc xd_72_8 rfl (b' := 2) rfl xm_nd71 (T := xm_T9) (N := 25) rfl xl_292 xl_293 xl_294) <|
    xl_cons (xk_istore hc xd_72_11 hm rfl (by decide)) <|
    xl_cons (xk_aload_n hc xd_72_13 rfl) <|
    xl_cons (xk_iload hc xd_72_14 rfl) <|
    xl_cons (xk_iconst hc xd_72_16 (by decide)) <|
    xl_cons (xk_if_icmp hc xd_72_17 (by decide)) <|
    xl_cons (xk_iload_n hc xd_72_20 rfl) <|
    xl_cons (xk_ifCond hc xd_72_21 (by decide)) <|
    xl_cons (xk_iload_n hc xd_72_24 rfl) <|
    xl_cons (xk_iconst hc xd_72_25 (by decide)) <|
    xl_cons (xk_if_icmp hc xd_72_26 (by decide)) <|
    xl_cons (xk_iconst hc xd_72_29 (by decide)) <|
    xl_cons (xk_goto hc xd_72_30 (by decide)) <|
    xl_cons (xk_iconst hc xd_72_33 (by decide)) <|
    xl_cons (xk_iconst hc xd_72_34 (by decide)) <|
    xl_cons (xk_callV (Y := xm_y32) ho rfl (by decide) ⟨by decide, by decide⟩ xl_202 hc xd_72_35 rfl (b' := 2) rfl xm_nd32 (T := xm_T9) (N := 25) rfl xl_201 xl_203 xl_204) <|
    xl_cons (xk_ifCond hc xd_72_38 (by decide)) <|
    xl_cons (xk_iconst hc xd_72_41 (by decide)) <|
    xl_cons (xk_ireturn hc xd_72_42) <|
    xl_cons (xk_iload_n hc xd_72_43 rfl) <|
    xl_cons (xk_ifCond hc xd_72_44 (by decide)) <|
    xl_cons (xk_aload_n hc xd_72_47 rfl) <|
    xl_cons (xk_getfield (C := xm_C9) (T := xm_T9) (N := 25) hc xd_72_48 ho rfl (by decide) xm_u9 xl_192) <|
    xl_cons (xk_iload hc xd_72_51 rfl) <|
    xl_cons (xk_iaload hc xd_72_53) <|
    xl_cons (xk_goto hc xd_72_54 (by decide)) <|
    xl_cons (xk_aload_n hc xd_72_57 rfl) <|
    xl_cons (xk_getfield (C := xm_C9) (T := xm_T9) (N := 25) hc xd_72_58 ho rfl (by decide) xm_u9 xl_193) <|
    xl_cons (xk_iload hc xd_72_61 rfl) <|
    xl_cons (xk_iaload hc xd_72_63) <|
    xl_cons (xk_ireturn hc xd_72_64) (xl_nil)
theorem xo_72 : ∀ e ∈ xm_i72, xr_sd xm_P 72 e := xo_72_0
set_option maxRecDepth 100000 in
theorem xo_73_0 : ∀ e ∈ ([(0, 1, .aload_n 0, 0, 0, .null, [], none),
  (1, 1, .iconst 0, 0, 0, .int 0, [], none),
  (2, 3, .putfield 69, 9, 0, .null, [], none),
  (5, 1, .aload_n 0, 0, 0, .null, [], none),
  (6, 1, .iload_n 1, 1, 0, .null, [], none),
  (7, 1, .iload_n 2, 2, 0, .null, [], none),
  (8, 3, .invokevirtual 189, 71, 3, .retAddr 0, [], none),
  (11, 2, .istore 4, 4, 0, .null, [], none),
  (13, 2, .iload 4, 4, 0, .null, [], none),
  (15, 1, .iconst (-1), 0, 0, .int (-1), [], none),
  (16, 3, .if_icmp .eq 40, 56, 0, .null, [], none),
  (19, 1, .aload_n 0, 0, 0, .null, [], none),
  (20, 3, .getfield 50, 9, 15, .null, [], none),
  (23, 2, .iload 4, 4, 0, .null, [], none),
  (25, 1, .iaload, 0, 0, .null, [], none),
  (26, 3, .ifCond .eq 30, 56, 0, .null, [], none),
  (29, 1, .aload_n 0, 0, 0, .null, [], none),
  (30, 3, .getfield 50, 9, 15, .null, [], none),
  (33, 2, .iload 4, 4, 0, .null, [], none),
  (35, 1, .iaload, 0, 0, .null, [], none),
  (36, 1, .iconst 2, 0, 0, .int 2, [], none),
  (37, 3, .if_icmp .eq 19, 56, 0, .null, [], none),
  (40, 1, .aload_n 0, 0, 0, .null, [], none),
  (41, 3, .getfield 50, 9, 15, .null, [], none),
  (44, 2, .iload 4, 4, 0, .null, [], none),
  (46, 1, .iaload, 0, 0, .null, [], none),
  (47, 2, .bipush 6, 0, 0, .int 6, [], none),
  (49, 3, .if_icmp .eq 7, 56, 0, .null, [], none),
  (52, 1, .iconst 1, 0, 0, .int 1, [], none),
  (53, 3, .goto 4, 57, 0, .null, [], none),
  (56, 1, .iconst 0, 0, 0, .int 0, [], none),
  (57, 2, .istore 5, 5, 0, .null, [], none),
  (59, 1, .aload_n 0, 0, 0, .null, [], none),
  (60, 2, .iload 5, 5, 0, .null, [], none),
  (62, 3, .ifCond .eq 18, 80, 0, .null, [], none),
  (65, 1, .iload_n 3, 3, 0, .null, [], none),
  (66, 3, .ifCond .lt 14, 80, 0, .null, [], none),
  (69, 1, .iload_n 3, 3, 0, .null, [], none),
  (70, 1, .aload_n 0, 0, 0, .null, [], none),
  (71, 3, .getfield 53, 9, 16, .null, [], none)] : List xr_E), xr_sd xm_P 73 e := by
  have hc : xp_cd xm_P 73 = prog_12_method_44_code := rfl
  have ho : xp_own xm_P 73 = "ExchangeTextModel" := rfl
  have hm : xp_ml xm_P 73 = 6 := rfl
  exact xl_cons (xk_aload_n hc xd_73_0 rfl) <|
    xl_cons (xk_iconst hc xd_73_1 (by decide)) <|
    xl_cons (xk_putfield (C := xm_C9) (T := xm_T9) (N := 25) (ty := xm_ty9) hc xd_73_2 ho rfl (by decide) xm_u9 xm_tk9 rfl xm_nm9 xl_199 rfl) <|
    xl_cons (xk_aload_n hc xd_73_5 rfl) <|
    xl_cons (xk_iload_n hc xd_73_6 rfl) <|
    xl_cons (xk_iload_n hc xd_73_7 rfl) <|
    xl_cons (xk_callV (Y := xm_y71) ho rfl (by decide) ⟨by decide, by decide⟩ xl_202 hc xd_73_8 rfl (b' := 2) rfl xm_nd71 (T := xm_T9) (N := 25) rfl xl_292 xl_293 xl_294) <|
    xl_cons (xk_istore hc xd_73_11 hm rfl (by decide)) <|
    xl_cons (xk_iload hc xd_73_13 rfl) <|
    xl_cons (xk_iconst hc xd_73_15 (by decide)) <|
    xl_cons (xk_if_icmp hc xd_73_16 (by decide)) <|
    xl_cons (xk_aload_n hc xd_73_19 rfl) <|
    xl_cons (xk_getfield (C := xm_C9) (T := xm_T9) (N := 25) hc xd_73_20 ho rfl (by decide) xm_u9 xl_192) <|
    xl_cons (xk_iload hc xd_73_23 rfl) <|
    xl_cons (xk_iaload hc xd_73_25) <|
    xl_cons (xk_ifCond hc xd_73_26 (by decide)) <|
    xl_cons (xk_aload_n hc xd_73_29 rfl) <|
    xl_cons (xk_getfield (C := xm_C9) (T := xm_T9) (N := 25) hc xd_73_30 ho rfl (by decide) xm_u9 xl_192) <|
    xl_cons (xk_iload hc xd_73_33 rfl) <|
    xl_cons (xk_iaload hc xd_73_35) <|
    xl_cons (xk_iconst hc xd_73_36 (by decide)) <|
    xl_cons (xk_if_icmp hc xd_73_37 (by decide)) <|
    xl_cons (xk_aload_n hc xd_73_40 rfl) <|
    xl_cons (xk_getfield (C := xm_C9) (T := xm_T9) (N := 25) hc xd_73_41 ho rfl (by decide) xm_u9 xl_192) <|
    xl_cons (xk_iload hc xd_73_44 rfl) <|
    xl_cons (xk_iaload hc xd_73_46) <|
    xl_cons (xk_bipush hc xd_73_47 (by decide)) <|
    xl_cons (xk_if_icmp hc xd_73_49 (by decide)) <|
    xl_cons (xk_iconst hc xd_73_52 (by decide)) <|
    xl_cons (xk_goto hc xd_73_53 (by decide)) <|
    xl_cons (xk_iconst hc xd_73_56 (by decide)) <|
    xl_cons (xk_istore hc xd_73_57 hm rfl (by decide)) <|
    xl_cons (xk_aload_n hc xd_73_59 rfl) <|
    xl_cons (xk_iload hc xd_73_60 rfl) <|
    xl_cons (xk_ifCond hc xd_73_62 (by decide)) <|
    xl_cons (xk_iload_n hc xd_73_65 rfl) <|
    xl_cons (xk_ifCond hc xd_73_66 (by decide)) <|
    xl_cons (xk_iload_n hc xd_73_69 rfl) <|
    xl_cons (xk_aload_n hc xd_73_70 rfl) <|
    xl_cons (xk_getfield (C := xm_C9) (T := xm_T9) (N := 25) hc xd_73_71 ho rfl (by decide) xm_u9 xl_193) (xl_nil)
set_option maxRecDepth 100000 in
theorem xo_73_1 : ∀ e ∈ ([(74, 2, .iload 4, 4, 0, .null, [], none),
  (76, 1, .iaload, 0, 0, .null, [], none),
  (77, 3, .if_icmp .lt 7, 84, 0, .null, [], none),
  (80, 1, .iconst 1, 0, 0, .int 1, [], none),
  (81, 3, .goto 4, 85, 0, .null, [], none),
  (84, 1, .iconst 0, 0, 0, .int 0, [], none),
  (85, 1, .iconst 1, 0, 0, .int 1, [], none),
  (86, 3, .invokevirtual 75, 32, 3, .retAddr 0, [], none),
  (89, 3, .ifCond .eq 5, 94, 0, .null, [], none),
  (92, 1, .iconst 0, 0, 0, .int 0, [], none),
  (93, 1, .ireturn, 0, 0, .null, [], none),
  (94, 1, .aload_n 0, 0, 0, .null, [], none),
  (95, 3, .getfield 56, 9, 17, .null, [], none),
  (98, 2, .bipush 20, 0, 0, .int 20, [], none),
  (100, 2, .iload 4, 4, 0, .null, [], none),
  (102, 1, .imul, 0, 0, .null, [], none),
  (103, 1, .iload_n 3, 3, 0, .null, [], none),
  (104, 1, .iadd, 0, 0, .null, [], none),
  (105, 1, .iaload, 0, 0, .null, [], none),
  (106, 1, .ireturn, 0, 0, .null, [], none)] : List xr_E), xr_sd xm_P 73 e := by
  have hc : xp_cd xm_P 73 = prog_12_method_44_code := rfl
  have ho : xp_own xm_P 73 = "ExchangeTextModel" := rfl
  have hm : xp_ml xm_P 73 = 6 := rfl
  exact xl_cons (xk_iload hc xd_73_74 rfl) <|
    xl_cons (xk_iaload hc xd_73_76) <|
    xl_cons (xk_if_icmp hc xd_73_77 (by decide)) <|
    xl_cons (xk_iconst hc xd_73_80 (by decide)) <|
    xl_cons (xk_goto hc xd_73_81 (by decide)) <|
    xl_cons (xk_iconst hc xd_73_84 (by decide)) <|
    xl_cons (xk_iconst hc xd_73_85 (by decide)) <|
    xl_cons (xk_callV (Y := xm_y32) ho rfl (by decide) ⟨by decide, by decide⟩ xl_202 hc xd_73_86 rfl (b' := 2) rfl xm_nd32 (T := xm_T9) (N := 25) rfl xl_201 xl_203 xl_204) <|
    xl_cons (xk_ifCond hc xd_73_89 (by decide)) <|
    xl_cons (xk_iconst hc xd_73_92 (by decide)) <|
    xl_cons (xk_ireturn hc xd_73_93) <|
    xl_cons (xk_aload_n hc xd_73_94 rfl) <|
    xl_cons (xk_getfield (C := xm_C9) (T := xm_T9) (N := 25) hc xd_73_95 ho rfl (by decide) xm_u9 xl_194) <|
    xl_cons (xk_bipush hc xd_73_98 (by decide)) <|
    xl_cons (xk_iload hc xd_73_100 rfl) <|
    xl_cons (xk_imul hc xd_73_102) <|
    xl_cons (xk_iload_n hc xd_73_103 rfl) <|
    xl_cons (xk_iadd hc xd_73_104) <|
    xl_cons (xk_iaload hc xd_73_105) <|
    xl_cons (xk_ireturn hc xd_73_106) (xl_nil)
theorem xo_73 : ∀ e ∈ xm_i73, xr_sd xm_P 73 e := xl_app xo_73_0 (xo_73_1)
set_option maxRecDepth 100000 in
theorem xo_74_0 : ∀ e ∈ ([(0, 1, .aload_n 0, 0, 0, .null, [], none),
  (1, 1, .iconst 0, 0, 0, .int 0, [], none),
  (2, 3, .putfield 69, 9, 0, .null, [], none),
  (5, 1, .aload_n 0, 0, 0, .null, [], none),
  (6, 1, .iload_n 1, 1, 0, .null, [], none),
  (7, 1, .iload_n 2, 2, 0, .null, [], none),
  (8, 3, .invokevirtual 189, 71, 3, .retAddr 0, [], none),
  (11, 2, .istore 4, 4, 0, .null, [], none),
  (13, 1, .aload_n 0, 0, 0, .null, [], none),
  (14, 2, .iload 4, 4, 0, .null, [], none),
  (16, 1, .iconst (-1), 0, 0, .int (-1), [], none),
  (17, 3, .if_icmp .eq 25, 42, 0, .null, [], none),
  (20, 1, .aload_n 0, 0, 0, .null, [], none),
  (21, 3, .getfield 50, 9, 15, .null, [], none),
  (24, 2, .iload 4, 4, 0, .null, [], none),
  (26, 1, .iaload, 0, 0, .null, [], none),
  (27, 3, .ifCond .ne 15, 42, 0, .null, [], none),
  (30, 1, .iload_n 3, 3, 0, .null, [], none),
  (31, 2, .ldc 192, 0, 0, .int (-999999999), [], none),
  (33, 3, .if_icmp .lt 9, 42, 0, .null, [], none),
  (36, 1, .iload_n 3, 3, 0, .null, [], none),
  (37, 2, .ldc 193, 0, 0, .int 999999999, [], none),
  (39, 3, .if_icmp .le 7, 46, 0, .null, [], none),
  (42, 1, .iconst 1, 0, 0, .int 1, [], none),
  (43, 3, .goto 4, 47, 0, .null, [], none),
  (46, 1, .iconst 0, 0, 0, .int 0, [], none),
  (47, 1, .iconst 1, 0, 0, .int 1, [], none),
  (48, 3, .invokevirtual 75, 32, 3, .retAddr 0, [], none),
  (51, 3, .ifCond .eq 5, 56, 0, .null, [], none),
  (54, 1, .iconst 0, 0, 0, .int 0, [], none),
  (55, 1, .ireturn, 0, 0, .null, [], none),
  (56, 1, .aload_n 0, 0, 0, .null, [], none),
  (57, 3, .getfield 53, 9, 16, .null, [], none),
  (60, 2, .iload 4, 4, 0, .null, [], none),
  (62, 1, .iaload, 0, 0, .null, [], none),
  (63, 2, .istore 5, 5, 0, .null, [], none),
  (65, 1, .aload_n 0, 0, 0, .null, [], none),
  (66, 3, .getfield 53, 9, 16, .null, [], none),
  (69, 2, .iload 4, 4, 0, .null, [], none),
  (71, 1, .iload_n 3, 3, 0, .null, [], none)] : List xr_E), xr_sd xm_P 74 e := by
  have hc : xp_cd xm_P 74 = prog_12_method_45_code := rfl
  have ho : xp_own xm_P 74 = "ExchangeTextModel" := rfl
  have hm : xp_ml xm_P 74 = 6 := rfl
  exact xl_cons (xk_aload_n hc xd_74_0 rfl) <|
    xl_cons (xk_iconst hc xd_74_1 (by decide)) <|
    xl_cons (xk_putfield (C := xm_C9) (T := xm_T9) (N := 25) (ty := xm_ty9) hc xd_74_2 ho rfl (by decide) xm_u9 xm_tk9 rfl xm_nm9 xl_199 rfl) <|
    xl_cons (xk_aload_n hc xd_74_5 rfl) <|
    xl_cons (xk_iload_n hc xd_74_6 rfl) <|
    xl_cons (xk_iload_n hc xd_74_7 rfl) <|
    xl_cons (xk_callV (Y := xm_y71) ho rfl (by decide) ⟨by decide, by decide⟩ xl_202 hc xd_74_8 rfl (b' := 2) rfl xm_nd71 (T := xm_T9) (N := 25) rfl xl_292 xl_293 xl_294) <|
    xl_cons (xk_istore hc xd_74_11 hm rfl (by decide)) <|
    xl_cons (xk_aload_n hc xd_74_13 rfl) <|
    xl_cons (xk_iload hc xd_74_14 rfl) <|
    xl_cons (xk_iconst hc xd_74_16 (by decide)) <|
    xl_cons (xk_if_icmp hc xd_74_17 (by decide)) <|
    xl_cons (xk_aload_n hc xd_74_20 rfl) <|
    xl_cons (xk_getfield (C := xm_C9) (T := xm_T9) (N := 25) hc xd_74_21 ho rfl (by decide) xm_u9 xl_192) <|
    xl_cons (xk_iload hc xd_74_24 rfl) <|
    xl_cons (xk_iaload hc xd_74_26) <|
    xl_cons (xk_ifCond hc xd_74_27 (by decide)) <|
    xl_cons (xk_iload_n hc xd_74_30 rfl) <|
    xl_cons (xk_ldc hc xd_74_31 ho rfl xl_295) <|
    xl_cons (xk_if_icmp hc xd_74_33 (by decide)) <|
    xl_cons (xk_iload_n hc xd_74_36 rfl) <|
    xl_cons (xk_ldc hc xd_74_37 ho rfl xl_296) <|
    xl_cons (xk_if_icmp hc xd_74_39 (by decide)) <|
    xl_cons (xk_iconst hc xd_74_42 (by decide)) <|
    xl_cons (xk_goto hc xd_74_43 (by decide)) <|
    xl_cons (xk_iconst hc xd_74_46 (by decide)) <|
    xl_cons (xk_iconst hc xd_74_47 (by decide)) <|
    xl_cons (xk_callV (Y := xm_y32) ho rfl (by decide) ⟨by decide, by decide⟩ xl_202 hc xd_74_48 rfl (b' := 2) rfl xm_nd32 (T := xm_T9) (N := 25) rfl xl_201 xl_203 xl_204) <|
    xl_cons (xk_ifCond hc xd_74_51 (by decide)) <|
    xl_cons (xk_iconst hc xd_74_54 (by decide)) <|
    xl_cons (xk_ireturn hc xd_74_55) <|
    xl_cons (xk_aload_n hc xd_74_56 rfl) <|
    xl_cons (xk_getfield (C := xm_C9) (T := xm_T9) (N := 25) hc xd_74_57 ho rfl (by decide) xm_u9 xl_193) <|
    xl_cons (xk_iload hc xd_74_60 rfl) <|
    xl_cons (xk_iaload hc xd_74_62) <|
    xl_cons (xk_istore hc xd_74_63 hm rfl (by decide)) <|
    xl_cons (xk_aload_n hc xd_74_65 rfl) <|
    xl_cons (xk_getfield (C := xm_C9) (T := xm_T9) (N := 25) hc xd_74_66 ho rfl (by decide) xm_u9 xl_193) <|
    xl_cons (xk_iload hc xd_74_69 rfl) <|
    xl_cons (xk_iload_n hc xd_74_71 rfl) (xl_nil)
set_option maxRecDepth 100000 in
theorem xo_74_1 : ∀ e ∈ ([(72, 1, .iastore, 0, 0, .null, [], none),
  (73, 2, .iload 5, 5, 0, .null, [], none),
  (75, 1, .ireturn, 0, 0, .null, [], none)] : List xr_E), xr_sd xm_P 74 e := by
  have hc : xp_cd xm_P 74 = prog_12_method_45_code := rfl
  have ho : xp_own xm_P 74 = "ExchangeTextModel" := rfl
  have hm : xp_ml xm_P 74 = 6 := rfl
  exact xl_cons (xk_iastore hc xd_74_72) <|
    xl_cons (xk_iload hc xd_74_73 rfl) <|
    xl_cons (xk_ireturn hc xd_74_75) (xl_nil)
theorem xo_74 : ∀ e ∈ xm_i74, xr_sd xm_P 74 e := xl_app xo_74_0 (xo_74_1)
set_option maxRecDepth 100000 in
theorem xo_75_0 : ∀ e ∈ ([(0, 1, .iconst 0, 0, 0, .int 0, [], none),
  (1, 1, .istore_n 3, 3, 0, .null, [], none),
  (2, 1, .iload_n 3, 3, 0, .null, [], none),
  (3, 1, .aload_n 0, 0, 0, .null, [], none),
  (4, 3, .getfield 47, 9, 14, .null, [], none),
  (7, 1, .iload_n 1, 1, 0, .null, [], none),
  (8, 1, .iaload, 0, 0, .null, [], none),
  (9, 3, .if_icmp .ge 121, 130, 0, .null, [], none),
  (12, 2, .bipush 8, 0, 0, .int 8, [], none),
  (14, 1, .iload_n 1, 1, 0, .null, [], none),
  (15, 1, .imul, 0, 0, .null, [], none),
  (16, 1, .iload_n 3, 3, 0, .null, [], none),
  (17, 1, .iadd, 0, 0, .null, [], none),
  (18, 2, .istore 4, 4, 0, .null, [], none),
  (20, 1, .aload_n 0, 0, 0, .null, [], none),
  (21, 3, .getfield 28, 9, 8, .null, [], none),
  (24, 2, .bipush 8, 0, 0, .int 8, [], none),
  (26, 1, .iload_n 2, 2, 0, .null, [], none),
  (27, 1, .imul, 0, 0, .null, [], none),
  (28, 1, .iload_n 3, 3, 0, .null, [], none),
  (29, 1, .iadd, 0, 0, .null, [], none),
  (30, 1, .iaload, 0, 0, .null, [], none),
  (31, 2, .istore 5, 5, 0, .null, [], none),
  (33, 2, .iload 5, 5, 0, .null, [], none),
  (35, 1, .iconst 4, 0, 0, .int 4, [], none),
  (36, 3, .if_icmp .ne 28, 64, 0, .null, [], none),
  (39, 1, .aload_n 0, 0, 0, .null, [], none),
  (40, 3, .getfield 50, 9, 15, .null, [], none),
  (43, 2, .iload 4, 4, 0, .null, [], none),
  (45, 1, .iaload, 0, 0, .null, [], none),
  (46, 1, .iconst 3, 0, 0, .int 3, [], none),
  (47, 3, .if_icmp .ne 17, 64, 0, .null, [], none),
  (50, 1, .aload_n 0, 0, 0, .null, [], none),
  (51, 3, .getfield 53, 9, 16, .null, [], none),
  (54, 2, .iload 4, 4, 0, .null, [], none),
  (56, 1, .iaload, 0, 0, .null, [], none),
  (57, 3, .ifCond .ne 7, 64, 0, .null, [], none),
  (60, 1, .iconst 1, 0, 0, .int 1, [], none),
  (61, 3, .goto 4, 65, 0, .null, [], none),
  (64, 1, .iconst 0, 0, 0, .int 0, [], none)] : List xr_E), xr_sd xm_P 75 e := by
  have hc : xp_cd xm_P 75 = prog_12_method_46_code := rfl
  have ho : xp_own xm_P 75 = "ExchangeTextModel" := rfl
  have hm : xp_ml xm_P 75 = 8 := rfl
  exact xl_cons (xk_iconst hc xd_75_0 (by decide)) <|
    xl_cons (xk_istore_n hc xd_75_1 hm rfl (by decide)) <|
    xl_cons (xk_iload_n hc xd_75_2 rfl) <|
    xl_cons (xk_aload_n hc xd_75_3 rfl) <|
    xl_cons (xk_getfield (C := xm_C9) (T := xm_T9) (N := 25) hc xd_75_4 ho rfl (by decide) xm_u9 xl_191) <|
    xl_cons (xk_iload_n hc xd_75_7 rfl) <|
    xl_cons (xk_iaload hc xd_75_8) <|
    xl_cons (xk_if_icmp hc xd_75_9 (by decide)) <|
    xl_cons (xk_bipush hc xd_75_12 (by decide)) <|
    xl_cons (xk_iload_n hc xd_75_14 rfl) <|
    xl_cons (xk_imul hc xd_75_15) <|
    xl_cons (xk_iload_n hc xd_75_16 rfl) <|
    xl_cons (xk_iadd hc xd_75_17) <|
    xl_cons (xk_istore hc xd_75_18 hm rfl (by decide)) <|
    xl_cons (xk_aload_n hc xd_75_20 rfl) <|
    xl_cons (xk_getfield (C := xm_C9) (T := xm_T9) (N := 25) hc xd_75_21 ho rfl (by decide) xm_u9 xl_184) <|
    xl_cons (xk_bipush hc xd_75_24 (by decide)) <|
    xl_cons (xk_iload_n hc xd_75_26 rfl) <|
    xl_cons (xk_imul hc xd_75_27) <|
    xl_cons (xk_iload_n hc xd_75_28 rfl) <|
    xl_cons (xk_iadd hc xd_75_29) <|
    xl_cons (xk_iaload hc xd_75_30) <|
    xl_cons (xk_istore hc xd_75_31 hm rfl (by decide)) <|
    xl_cons (xk_iload hc xd_75_33 rfl) <|
    xl_cons (xk_iconst hc xd_75_35 (by decide)) <|
    xl_cons (xk_if_icmp hc xd_75_36 (by decide)) <|
    xl_cons (xk_aload_n hc xd_75_39 rfl) <|
    xl_cons (xk_getfield (C := xm_C9) (T := xm_T9) (N := 25) hc xd_75_40 ho rfl (by decide) xm_u9 xl_192) <|
    xl_cons (xk_iload hc xd_75_43 rfl) <|
    xl_cons (xk_iaload hc xd_75_45) <|
    xl_cons (xk_iconst hc xd_75_46 (by decide)) <|
    xl_cons (xk_if_icmp hc xd_75_47 (by decide)) <|
    xl_cons (xk_aload_n hc xd_75_50 rfl) <|
    xl_cons (xk_getfield (C := xm_C9) (T := xm_T9) (N := 25) hc xd_75_51 ho rfl (by decide) xm_u9 xl_193) <|
    xl_cons (xk_iload hc xd_75_54 rfl) <|
    xl_cons (xk_iaload hc xd_75_56) <|
    xl_cons (xk_ifCond hc xd_75_57 (by decide)) <|
    xl_cons (xk_iconst hc xd_75_60 (by decide)) <|
    xl_cons (xk_goto hc xd_75_61 (by decide)) <|
    xl_cons (xk_iconst hc xd_75_64 (by decide)) (xl_nil)
set_option maxRecDepth 100000 in
theorem xo_75_1 : ∀ e ∈ ([(65, 2, .istore 6, 6, 0, .null, [], none),
  (67, 1, .aload_n 0, 0, 0, .null, [], none),
  (68, 3, .getfield 50, 9, 15, .null, [], none),
  (71, 2, .iload 4, 4, 0, .null, [], none),
  (73, 1, .iaload, 0, 0, .null, [], none),
  (74, 2, .bipush 6, 0, 0, .int 6, [], none),
  (76, 3, .if_icmp .ne 21, 97, 0, .null, [], none),
  (79, 1, .aload_n 0, 0, 0, .null, [], none),
  (80, 3, .getfield 31, 9, 9, .null, [], none),
  (83, 2, .bipush 8, 0, 0, .int 8, [], none),
  (85, 1, .iload_n 2, 2, 0, .null, [], none),
  (86, 1, .imul, 0, 0, .null, [], none),
  (87, 1, .iload_n 3, 3, 0, .null, [], none),
  (88, 1, .iadd, 0, 0, .null, [], none),
  (89, 1, .baload, 0, 0, .null, [], none),
  (90, 3, .ifCond .eq 7, 97, 0, .null, [], none),
  (93, 1, .iconst 1, 0, 0, .int 1, [], none),
  (94, 3, .goto 4, 98, 0, .null, [], none),
  (97, 1, .iconst 0, 0, 0, .int 0, [], none),
  (98, 2, .istore 7, 7, 0, .null, [], none),
  (100, 1, .aload_n 0, 0, 0, .null, [], none),
  (101, 3, .getfield 50, 9, 15, .null, [], none),
  (104, 2, .iload 4, 4, 0, .null, [], none),
  (106, 1, .iaload, 0, 0, .null, [], none),
  (107, 2, .iload 5, 5, 0, .null, [], none),
  (109, 3, .if_icmp .eq 15, 124, 0, .null, [], none),
  (112, 2, .iload 6, 6, 0, .null, [], none),
  (114, 3, .ifCond .ne 10, 124, 0, .null, [], none),
  (117, 2, .iload 7, 7, 0, .null, [], none),
  (119, 3, .ifCond .ne 5, 124, 0, .null, [], none),
  (122, 1, .iload_n 3, 3, 0, .null, [], none),
  (123, 1, .ireturn, 0, 0, .null, [], none),
  (124, 3, .iinc 3 1, 3, 0, .int 1, [], none),
  (127, 3, .goto (-125), 2, 0, .null, [], none),
  (130, 1, .iconst (-1), 0, 0, .int (-1), [], none),
  (131, 1, .ireturn, 0, 0, .null, [], none)] : List xr_E), xr_sd xm_P 75 e := by
  have hc : xp_cd xm_P 75 = prog_12_method_46_code := rfl
  have ho : xp_own xm_P 75 = "ExchangeTextModel" := rfl
  have hm : xp_ml xm_P 75 = 8 := rfl
  exact xl_cons (xk_istore hc xd_75_65 hm rfl (by decide)) <|
    xl_cons (xk_aload_n hc xd_75_67 rfl) <|
    xl_cons (xk_getfield (C := xm_C9) (T := xm_T9) (N := 25) hc xd_75_68 ho rfl (by decide) xm_u9 xl_192) <|
    xl_cons (xk_iload hc xd_75_71 rfl) <|
    xl_cons (xk_iaload hc xd_75_73) <|
    xl_cons (xk_bipush hc xd_75_74 (by decide)) <|
    xl_cons (xk_if_icmp hc xd_75_76 (by decide)) <|
    xl_cons (xk_aload_n hc xd_75_79 rfl) <|
    xl_cons (xk_getfield (C := xm_C9) (T := xm_T9) (N := 25) hc xd_75_80 ho rfl (by decide) xm_u9 xl_186) <|
    xl_cons (xk_bipush hc xd_75_83 (by decide)) <|
    xl_cons (xk_iload_n hc xd_75_85 rfl) <|
    xl_cons (xk_imul hc xd_75_86) <|
    xl_cons (xk_iload_n hc xd_75_87 rfl) <|
    xl_cons (xk_iadd hc xd_75_88) <|
    xl_cons (xk_baload hc xd_75_89) <|
    xl_cons (xk_ifCond hc xd_75_90 (by decide)) <|
    xl_cons (xk_iconst hc xd_75_93 (by decide)) <|
    xl_cons (xk_goto hc xd_75_94 (by decide)) <|
    xl_cons (xk_iconst hc xd_75_97 (by decide)) <|
    xl_cons (xk_istore hc xd_75_98 hm rfl (by decide)) <|
    xl_cons (xk_aload_n hc xd_75_100 rfl) <|
    xl_cons (xk_getfield (C := xm_C9) (T := xm_T9) (N := 25) hc xd_75_101 ho rfl (by decide) xm_u9 xl_192) <|
    xl_cons (xk_iload hc xd_75_104 rfl) <|
    xl_cons (xk_iaload hc xd_75_106) <|
    xl_cons (xk_iload hc xd_75_107 rfl) <|
    xl_cons (xk_if_icmp hc xd_75_109 (by decide)) <|
    xl_cons (xk_iload hc xd_75_112 rfl) <|
    xl_cons (xk_ifCond hc xd_75_114 (by decide)) <|
    xl_cons (xk_iload hc xd_75_117 rfl) <|
    xl_cons (xk_ifCond hc xd_75_119 (by decide)) <|
    xl_cons (xk_iload_n hc xd_75_122 rfl) <|
    xl_cons (xk_ireturn hc xd_75_123) <|
    xl_cons (xk_iinc hc xd_75_124 hm rfl (by decide) (by decide)) <|
    xl_cons (xk_goto hc xd_75_127 (by decide)) <|
    xl_cons (xk_iconst hc xd_75_130 (by decide)) <|
    xl_cons (xk_ireturn hc xd_75_131) (xl_nil)
theorem xo_75 : ∀ e ∈ xm_i75, xr_sd xm_P 75 e := xl_app xo_75_0 (xo_75_1)
set_option maxRecDepth 100000 in
theorem xo_76_0 : ∀ e ∈ ([(0, 1, .aload_n 0, 0, 0, .null, [], none),
  (1, 1, .iconst 0, 0, 0, .int 0, [], none),
  (2, 3, .putfield 69, 9, 0, .null, [], none),
  (5, 1, .aload_n 0, 0, 0, .null, [], none),
  (6, 1, .iload_n 1, 1, 0, .null, [], none),
  (7, 3, .ifCond .lt 12, 19, 0, .null, [], none),
  (10, 1, .iload_n 2, 2, 0, .null, [], none),
  (11, 3, .ifCond .lt 8, 19, 0, .null, [], none),
  (14, 1, .iload_n 2, 2, 0, .null, [], none),
  (15, 1, .iconst 2, 0, 0, .int 2, [], none),
  (16, 3, .if_icmp .le 7, 23, 0, .null, [], none),
  (19, 1, .iconst 1, 0, 0, .int 1, [], none),
  (20, 3, .goto 4, 24, 0, .null, [], none),
  (23, 1, .iconst 0, 0, 0, .int 0, [], none),
  (24, 1, .iconst 1, 0, 0, .int 1, [], none),
  (25, 3, .invokevirtual 75, 32, 3, .retAddr 0, [], none),
  (28, 3, .ifCond .eq 5, 33, 0, .null, [], none),
  (31, 1, .iconst 0, 0, 0, .int 0, [], none),
  (32, 1, .ireturn, 0, 0, .null, [], none),
  (33, 1, .iload_n 1, 1, 0, .null, [], none),
  (34, 1, .istore_n 3, 3, 0, .null, [], none),
  (35, 1, .iconst 0, 0, 0, .int 0, [], none),
  (36, 2, .istore 4, 4, 0, .null, [], none),
  (38, 2, .iload 4, 4, 0, .null, [], none),
  (40, 1, .aload_n 0, 0, 0, .null, [], none),
  (41, 3, .getfield 35, 9, 10, .null, [], none),
  (44, 1, .iconst 0, 0, 0, .int 0, [], none),
  (45, 1, .iaload, 0, 0, .null, [], none),
  (46, 3, .if_icmp .ge 126, 172, 0, .null, [], none),
  (49, 1, .aload_n 0, 0, 0, .null, [], none),
  (50, 2, .iload 4, 4, 0, .null, [], none),
  (52, 3, .invokevirtual 183, 64, 2, .retAddr 0, [], none),
  (55, 2, .istore 5, 5, 0, .null, [], none),
  (57, 2, .iload 5, 5, 0, .null, [], none),
  (59, 1, .iconst (-1), 0, 0, .int (-1), [], none),
  (60, 3, .if_icmp .ne 7, 67, 0, .null, [], none),
  (63, 1, .iconst 1, 0, 0, .int 1, [], none),
  (64, 3, .goto 25, 89, 0, .null, [], none),
  (67, 1, .aload_n 0, 0, 0, .null, [], none),
  (68, 3, .getfield 25, 9, 7, .null, [], none)] : List xr_E), xr_sd xm_P 76 e := by
  have hc : xp_cd xm_P 76 = prog_12_method_47_code := rfl
  have ho : xp_own xm_P 76 = "ExchangeTextModel" := rfl
  have hm : xp_ml xm_P 76 = 8 := rfl
  exact xl_cons (xk_aload_n hc xd_76_0 rfl) <|
    xl_cons (xk_iconst hc xd_76_1 (by decide)) <|
    xl_cons (xk_putfield (C := xm_C9) (T := xm_T9) (N := 25) (ty := xm_ty9) hc xd_76_2 ho rfl (by decide) xm_u9 xm_tk9 rfl xm_nm9 xl_199 rfl) <|
    xl_cons (xk_aload_n hc xd_76_5 rfl) <|
    xl_cons (xk_iload_n hc xd_76_6 rfl) <|
    xl_cons (xk_ifCond hc xd_76_7 (by decide)) <|
    xl_cons (xk_iload_n hc xd_76_10 rfl) <|
    xl_cons (xk_ifCond hc xd_76_11 (by decide)) <|
    xl_cons (xk_iload_n hc xd_76_14 rfl) <|
    xl_cons (xk_iconst hc xd_76_15 (by decide)) <|
    xl_cons (xk_if_icmp hc xd_76_16 (by decide)) <|
    xl_cons (xk_iconst hc xd_76_19 (by decide)) <|
    xl_cons (xk_goto hc xd_76_20 (by decide)) <|
    xl_cons (xk_iconst hc xd_76_23 (by decide)) <|
    xl_cons (xk_iconst hc xd_76_24 (by decide)) <|
    xl_cons (xk_callV (Y := xm_y32) ho rfl (by decide) ⟨by decide, by decide⟩ xl_202 hc xd_76_25 rfl (b' := 2) rfl xm_nd32 (T := xm_T9) (N := 25) rfl xl_201 xl_203 xl_204) <|
    xl_cons (xk_ifCond hc xd_76_28 (by decide)) <|
    xl_cons (xk_iconst hc xd_76_31 (by decide)) <|
    xl_cons (xk_ireturn hc xd_76_32) <|
    xl_cons (xk_iload_n hc xd_76_33 rfl) <|
    xl_cons (xk_istore_n hc xd_76_34 hm rfl (by decide)) <|
    xl_cons (xk_iconst hc xd_76_35 (by decide)) <|
    xl_cons (xk_istore hc xd_76_36 hm rfl (by decide)) <|
    xl_cons (xk_iload hc xd_76_38 rfl) <|
    xl_cons (xk_aload_n hc xd_76_40 rfl) <|
    xl_cons (xk_getfield (C := xm_C9) (T := xm_T9) (N := 25) hc xd_76_41 ho rfl (by decide) xm_u9 xl_187) <|
    xl_cons (xk_iconst hc xd_76_44 (by decide)) <|
    xl_cons (xk_iaload hc xd_76_45) <|
    xl_cons (xk_if_icmp hc xd_76_46 (by decide)) <|
    xl_cons (xk_aload_n hc xd_76_49 rfl) <|
    xl_cons (xk_iload hc xd_76_50 rfl) <|
    xl_cons (xk_callV (Y := xm_y64) ho rfl (by decide) ⟨by decide, by decide⟩ xl_202 hc xd_76_52 rfl (b' := 1) rfl xm_nd64 (T := xm_T9) (N := 25) rfl xl_286 xl_287 xl_288) <|
    xl_cons (xk_istore hc xd_76_55 hm rfl (by decide)) <|
    xl_cons (xk_iload hc xd_76_57 rfl) <|
    xl_cons (xk_iconst hc xd_76_59 (by decide)) <|
    xl_cons (xk_if_icmp hc xd_76_60 (by decide)) <|
    xl_cons (xk_iconst hc xd_76_63 (by decide)) <|
    xl_cons (xk_goto hc xd_76_64 (by decide)) <|
    xl_cons (xk_aload_n hc xd_76_67 rfl) <|
    xl_cons (xk_getfield (C := xm_C9) (T := xm_T9) (N := 25) hc xd_76_68 ho rfl (by decide) xm_u9 xl_183) (xl_nil)
set_option maxRecDepth 100000 in
theorem xo_76_1 : ∀ e ∈ ([(71, 2, .iload 5, 5, 0, .null, [], none),
  (73, 1, .iaload, 0, 0, .null, [], none),
  (74, 1, .aload_n 0, 0, 0, .null, [], none),
  (75, 3, .getfield 47, 9, 14, .null, [], none),
  (78, 2, .iload 4, 4, 0, .null, [], none),
  (80, 1, .iaload, 0, 0, .null, [], none),
  (81, 3, .if_icmp .eq 7, 88, 0, .null, [], none),
  (84, 1, .iconst 2, 0, 0, .int 2, [], none),
  (85, 3, .goto 4, 89, 0, .null, [], none),
  (88, 1, .iconst 0, 0, 0, .int 0, [], none),
  (89, 2, .istore 6, 6, 0, .null, [], none),
  (91, 2, .iload 6, 6, 0, .null, [], none),
  (93, 3, .ifCond .ne 14, 107, 0, .null, [], none),
  (96, 1, .aload_n 0, 0, 0, .null, [], none),
  (97, 2, .iload 4, 4, 0, .null, [], none),
  (99, 2, .iload 5, 5, 0, .null, [], none),
  (101, 3, .invokevirtual 194, 75, 3, .retAddr 0, [], none),
  (104, 3, .goto 4, 108, 0, .null, [], none),
  (107, 1, .iconst (-1), 0, 0, .int (-1), [], none),
  (108, 2, .istore 7, 7, 0, .null, [], none),
  (110, 2, .iload 7, 7, 0, .null, [], none),
  (112, 1, .iconst (-1), 0, 0, .int (-1), [], none),
  (113, 3, .if_icmp .eq 7, 120, 0, .null, [], none),
  (116, 1, .iconst 3, 0, 0, .int 3, [], none),
  (117, 3, .goto 5, 122, 0, .null, [], none),
  (120, 2, .iload 6, 6, 0, .null, [], none),
  (122, 2, .istore 6, 6, 0, .null, [], none),
  (124, 2, .iload 6, 6, 0, .null, [], none),
  (126, 3, .ifCond .ne 6, 132, 0, .null, [], none),
  (129, 3, .goto 37, 166, 0, .null, [], none),
  (132, 1, .iload_n 3, 3, 0, .null, [], none),
  (133, 3, .ifCond .ne 30, 163, 0, .null, [], none),
  (136, 1, .iload_n 2, 2, 0, .null, [], none),
  (137, 3, .ifCond .ne 13, 150, 0, .null, [], none),
  (140, 1, .aload_n 0, 0, 0, .null, [], none),
  (141, 3, .getfield 38, 9, 11, .null, [], none),
  (144, 2, .iload 4, 4, 0, .null, [], none),
  (146, 1, .iaload, 0, 0, .null, [], none),
  (147, 3, .goto 15, 162, 0, .null, [], none),
  (150, 1, .iload_n 2, 2, 0, .null, [], none)] : List xr_E), xr_sd xm_P 76 e := by
  have hc : xp_cd xm_P 76 = prog_12_method_47_code := rfl
  have ho : xp_own xm_P 76 = "ExchangeTextModel" := rfl
  have hm : xp_ml xm_P 76 = 8 := rfl
  exact xl_cons (xk_iload hc xd_76_71 rfl) <|
    xl_cons (xk_iaload hc xd_76_73) <|
    xl_cons (xk_aload_n hc xd_76_74 rfl) <|
    xl_cons (xk_getfield (C := xm_C9) (T := xm_T9) (N := 25) hc xd_76_75 ho rfl (by decide) xm_u9 xl_191) <|
    xl_cons (xk_iload hc xd_76_78 rfl) <|
    xl_cons (xk_iaload hc xd_76_80) <|
    xl_cons (xk_if_icmp hc xd_76_81 (by decide)) <|
    xl_cons (xk_iconst hc xd_76_84 (by decide)) <|
    xl_cons (xk_goto hc xd_76_85 (by decide)) <|
    xl_cons (xk_iconst hc xd_76_88 (by decide)) <|
    xl_cons (xk_istore hc xd_76_89 hm rfl (by decide)) <|
    xl_cons (xk_iload hc xd_76_91 rfl) <|
    xl_cons (xk_ifCond hc xd_76_93 (by decide)) <|
    xl_cons (xk_aload_n hc xd_76_96 rfl) <|
    xl_cons (xk_iload hc xd_76_97 rfl) <|
    xl_cons (xk_iload hc xd_76_99 rfl) <|
    xl_cons (xk_callV (Y := xm_y75) ho rfl (by decide) ⟨by decide, by decide⟩ xl_202 hc xd_76_101 rfl (b' := 2) rfl xm_nd75 (T := xm_T9) (N := 25) rfl xl_297 xl_298 xl_299) <|
    xl_cons (xk_goto hc xd_76_104 (by decide)) <|
    xl_cons (xk_iconst hc xd_76_107 (by decide)) <|
    xl_cons (xk_istore hc xd_76_108 hm rfl (by decide)) <|
    xl_cons (xk_iload hc xd_76_110 rfl) <|
    xl_cons (xk_iconst hc xd_76_112 (by decide)) <|
    xl_cons (xk_if_icmp hc xd_76_113 (by decide)) <|
    xl_cons (xk_iconst hc xd_76_116 (by decide)) <|
    xl_cons (xk_goto hc xd_76_117 (by decide)) <|
    xl_cons (xk_iload hc xd_76_120 rfl) <|
    xl_cons (xk_istore hc xd_76_122 hm rfl (by decide)) <|
    xl_cons (xk_iload hc xd_76_124 rfl) <|
    xl_cons (xk_ifCond hc xd_76_126 (by decide)) <|
    xl_cons (xk_goto hc xd_76_129 (by decide)) <|
    xl_cons (xk_iload_n hc xd_76_132 rfl) <|
    xl_cons (xk_ifCond hc xd_76_133 (by decide)) <|
    xl_cons (xk_iload_n hc xd_76_136 rfl) <|
    xl_cons (xk_ifCond hc xd_76_137 (by decide)) <|
    xl_cons (xk_aload_n hc xd_76_140 rfl) <|
    xl_cons (xk_getfield (C := xm_C9) (T := xm_T9) (N := 25) hc xd_76_141 ho rfl (by decide) xm_u9 xl_188) <|
    xl_cons (xk_iload hc xd_76_144 rfl) <|
    xl_cons (xk_iaload hc xd_76_146) <|
    xl_cons (xk_goto hc xd_76_147 (by decide)) <|
    xl_cons (xk_iload_n hc xd_76_150 rfl) (xl_nil)
set_option maxRecDepth 100000 in
theorem xo_76_2 : ∀ e ∈ ([(151, 1, .iconst 1, 0, 0, .int 1, [], none),
  (152, 3, .if_icmp .ne 8, 160, 0, .null, [], none),
  (155, 2, .iload 6, 6, 0, .null, [], none),
  (157, 3, .goto 5, 162, 0, .null, [], none),
  (160, 2, .iload 7, 7, 0, .null, [], none),
  (162, 1, .ireturn, 0, 0, .null, [], none),
  (163, 3, .iinc 3 (-1), 3, 0, .int (-1), [], none),
  (166, 3, .iinc 4 1, 4, 0, .int 1, [], none),
  (169, 3, .goto (-131), 38, 0, .null, [], none),
  (172, 1, .iconst (-1), 0, 0, .int (-1), [], none),
  (173, 1, .ireturn, 0, 0, .null, [], none)] : List xr_E), xr_sd xm_P 76 e := by
  have hc : xp_cd xm_P 76 = prog_12_method_47_code := rfl
  have ho : xp_own xm_P 76 = "ExchangeTextModel" := rfl
  have hm : xp_ml xm_P 76 = 8 := rfl
  exact xl_cons (xk_iconst hc xd_76_151 (by decide)) <|
    xl_cons (xk_if_icmp hc xd_76_152 (by decide)) <|
    xl_cons (xk_iload hc xd_76_155 rfl) <|
    xl_cons (xk_goto hc xd_76_157 (by decide)) <|
    xl_cons (xk_iload hc xd_76_160 rfl) <|
    xl_cons (xk_ireturn hc xd_76_162) <|
    xl_cons (xk_iinc hc xd_76_163 hm rfl (by decide) (by decide)) <|
    xl_cons (xk_iinc hc xd_76_166 hm rfl (by decide) (by decide)) <|
    xl_cons (xk_goto hc xd_76_169 (by decide)) <|
    xl_cons (xk_iconst hc xd_76_172 (by decide)) <|
    xl_cons (xk_ireturn hc xd_76_173) (xl_nil)
theorem xo_76 : ∀ e ∈ xm_i76, xr_sd xm_P 76 e := xl_app xo_76_0 (xl_app xo_76_1 (xo_76_2))
set_option maxRecDepth 100000 in
theorem xo_77_0 : ∀ e ∈ ([(0, 1, .aload_n 0, 0, 0, .null, [], none),
  (1, 1, .iconst 0, 0, 0, .int 0, [], none),
  (2, 3, .putfield 69, 9, 0, .null, [], none),
  (5, 1, .aload_n 0, 0, 0, .null, [], none),
  (6, 1, .iconst 0, 0, 0, .int 0, [], none),
  (7, 1, .iload_n 1, 1, 0, .null, [], none),
  (8, 3, .invokevirtual 143, 50, 3, .retAddr 0, [], none),
  (11, 1, .istore_n 3, 3, 0, .null, [], none),
  (12, 1, .aload_n 0, 0, 0, .null, [], none),
  (13, 1, .iload_n 3, 3, 0, .null, [], none),
  (14, 1, .iconst (-1), 0, 0, .int (-1), [], none),
  (15, 3, .if_icmp .eq 7, 22, 0, .null, [], none),
  (18, 1, .iload_n 2, 2, 0, .null, [], none),
  (19, 3, .ifCond .ge 7, 26, 0, .null, [], none),
  (22, 1, .iconst 1, 0, 0, .int 1, [], none),
  (23, 3, .goto 4, 27, 0, .null, [], none),
  (26, 1, .iconst 0, 0, 0, .int 0, [], none),
  (27, 1, .iconst 1, 0, 0, .int 1, [], none),
  (28, 3, .invokevirtual 75, 32, 3, .retAddr 0, [], none),
  (31, 3, .ifCond .eq 5, 36, 0, .null, [], none),
  (34, 1, .iconst 0, 0, 0, .int 0, [], none),
  (35, 1, .ireturn, 0, 0, .null, [], none),
  (36, 1, .aload_n 0, 0, 0, .null, [], none),
  (37, 3, .invokevirtual 177, 68, 1, .retAddr 0, [], none),
  (40, 1, .iload_n 2, 2, 0, .null, [], none),
  (41, 2, .istore 4, 4, 0, .null, [], none),
  (43, 1, .iconst 0, 0, 0, .int 0, [], none),
  (44, 2, .istore 5, 5, 0, .null, [], none),
  (46, 2, .iload 5, 5, 0, .null, [], none),
  (48, 1, .aload_n 0, 0, 0, .null, [], none),
  (49, 3, .getfield 35, 9, 10, .null, [], none),
  (52, 1, .iconst 0, 0, 0, .int 0, [], none),
  (53, 1, .iaload, 0, 0, .null, [], none),
  (54, 3, .if_icmp .ge 44, 98, 0, .null, [], none),
  (57, 1, .aload_n 0, 0, 0, .null, [], none),
  (58, 3, .getfield 65, 9, 23, .null, [], none),
  (61, 2, .iload 5, 5, 0, .null, [], none),
  (63, 1, .laload, 0, 0, .null, [], none),
  (64, 1, .iload_n 3, 3, 0, .null, [], none),
  (65, 1, .lshr, 0, 0, .null, [], none)] : List xr_E), xr_sd xm_P 77 e := by
  have hc : xp_cd xm_P 77 = prog_12_method_48_code := rfl
  have ho : xp_own xm_P 77 = "ExchangeTextModel" := rfl
  have hm : xp_ml xm_P 77 = 6 := rfl
  exact xl_cons (xk_aload_n hc xd_77_0 rfl) <|
    xl_cons (xk_iconst hc xd_77_1 (by decide)) <|
    xl_cons (xk_putfield (C := xm_C9) (T := xm_T9) (N := 25) (ty := xm_ty9) hc xd_77_2 ho rfl (by decide) xm_u9 xm_tk9 rfl xm_nm9 xl_199 rfl) <|
    xl_cons (xk_aload_n hc xd_77_5 rfl) <|
    xl_cons (xk_iconst hc xd_77_6 (by decide)) <|
    xl_cons (xk_iload_n hc xd_77_7 rfl) <|
    xl_cons (xk_callV (Y := xm_y50) ho rfl (by decide) ⟨by decide, by decide⟩ xl_202 hc xd_77_8 rfl (b' := 2) rfl xm_nd50 (T := xm_T9) (N := 25) rfl xl_249 xl_250 xl_251) <|
    xl_cons (xk_istore_n hc xd_77_11 hm rfl (by decide)) <|
    xl_cons (xk_aload_n hc xd_77_12 rfl) <|
    xl_cons (xk_iload_n hc xd_77_13 rfl) <|
    xl_cons (xk_iconst hc xd_77_14 (by decide)) <|
    xl_cons (xk_if_icmp hc xd_77_15 (by decide)) <|
    xl_cons (xk_iload_n hc xd_77_18 rfl) <|
    xl_cons (xk_ifCond hc xd_77_19 (by decide)) <|
    xl_cons (xk_iconst hc xd_77_22 (by decide)) <|
    xl_cons (xk_goto hc xd_77_23 (by decide)) <|
    xl_cons (xk_iconst hc xd_77_26 (by decide)) <|
    xl_cons (xk_iconst hc xd_77_27 (by decide)) <|
    xl_cons (xk_callV (Y := xm_y32) ho rfl (by decide) ⟨by decide, by decide⟩ xl_202 hc xd_77_28 rfl (b' := 2) rfl xm_nd32 (T := xm_T9) (N := 25) rfl xl_201 xl_203 xl_204) <|
    xl_cons (xk_ifCond hc xd_77_31 (by decide)) <|
    xl_cons (xk_iconst hc xd_77_34 (by decide)) <|
    xl_cons (xk_ireturn hc xd_77_35) <|
    xl_cons (xk_aload_n hc xd_77_36 rfl) <|
    xl_cons (xk_callV (Y := xm_y68) ho rfl (by decide) ⟨by decide, by decide⟩ xl_202 hc xd_77_37 rfl (b' := 0) rfl xm_nd68 (T := xm_T9) (N := 25) rfl xl_280 xl_281 xl_282) <|
    xl_cons (xk_iload_n hc xd_77_40 rfl) <|
    xl_cons (xk_istore hc xd_77_41 hm rfl (by decide)) <|
    xl_cons (xk_iconst hc xd_77_43 (by decide)) <|
    xl_cons (xk_istore hc xd_77_44 hm rfl (by decide)) <|
    xl_cons (xk_iload hc xd_77_46 rfl) <|
    xl_cons (xk_aload_n hc xd_77_48 rfl) <|
    xl_cons (xk_getfield (C := xm_C9) (T := xm_T9) (N := 25) hc xd_77_49 ho rfl (by decide) xm_u9 xl_187) <|
    xl_cons (xk_iconst hc xd_77_52 (by decide)) <|
    xl_cons (xk_iaload hc xd_77_53) <|
    xl_cons (xk_if_icmp hc xd_77_54 (by decide)) <|
    xl_cons (xk_aload_n hc xd_77_57 rfl) <|
    xl_cons (xk_getfield (C := xm_C9) (T := xm_T9) (N := 25) hc xd_77_58 ho rfl (by decide) xm_u9 xl_198) <|
    xl_cons (xk_iload hc xd_77_61 rfl) <|
    xl_cons (xk_laload hc xd_77_63) <|
    xl_cons (xk_iload_n hc xd_77_64 rfl) <|
    xl_cons (xk_lshr hc xd_77_65) (xl_nil)
set_option maxRecDepth 100000 in
theorem xo_77_1 : ∀ e ∈ ([(66, 1, .lconst 1, 0, 0, .long 1, [], none),
  (67, 1, .land, 0, 0, .null, [], none),
  (68, 1, .lconst 0, 0, 0, .long 0, [], none),
  (69, 1, .lcmp, 0, 0, .null, [], none),
  (70, 3, .ifCond .ne 6, 76, 0, .null, [], none),
  (73, 3, .goto 19, 92, 0, .null, [], none),
  (76, 2, .iload 4, 4, 0, .null, [], none),
  (78, 3, .ifCond .ne 11, 89, 0, .null, [], none),
  (81, 1, .aload_n 0, 0, 0, .null, [], none),
  (82, 3, .getfield 38, 9, 11, .null, [], none),
  (85, 2, .iload 5, 5, 0, .null, [], none),
  (87, 1, .iaload, 0, 0, .null, [], none),
  (88, 1, .ireturn, 0, 0, .null, [], none),
  (89, 3, .iinc 4 (-1), 4, 0, .int (-1), [], none),
  (92, 3, .iinc 5 1, 5, 0, .int 1, [], none),
  (95, 3, .goto (-49), 46, 0, .null, [], none),
  (98, 1, .iconst (-1), 0, 0, .int (-1), [], none),
  (99, 1, .ireturn, 0, 0, .null, [], none)] : List xr_E), xr_sd xm_P 77 e := by
  have hc : xp_cd xm_P 77 = prog_12_method_48_code := rfl
  have ho : xp_own xm_P 77 = "ExchangeTextModel" := rfl
  have hm : xp_ml xm_P 77 = 6 := rfl
  exact xl_cons (xk_lconst hc xd_77_66 rfl) <|
    xl_cons (xk_land hc xd_77_67) <|
    xl_cons (xk_lconst hc xd_77_68 rfl) <|
    xl_cons (xk_lcmp hc xd_77_69) <|
    xl_cons (xk_ifCond hc xd_77_70 (by decide)) <|
    xl_cons (xk_goto hc xd_77_73 (by decide)) <|
    xl_cons (xk_iload hc xd_77_76 rfl) <|
    xl_cons (xk_ifCond hc xd_77_78 (by decide)) <|
    xl_cons (xk_aload_n hc xd_77_81 rfl) <|
    xl_cons (xk_getfield (C := xm_C9) (T := xm_T9) (N := 25) hc xd_77_82 ho rfl (by decide) xm_u9 xl_188) <|
    xl_cons (xk_iload hc xd_77_85 rfl) <|
    xl_cons (xk_iaload hc xd_77_87) <|
    xl_cons (xk_ireturn hc xd_77_88) <|
    xl_cons (xk_iinc hc xd_77_89 hm rfl (by decide) (by decide)) <|
    xl_cons (xk_iinc hc xd_77_92 hm rfl (by decide) (by decide)) <|
    xl_cons (xk_goto hc xd_77_95 (by decide)) <|
    xl_cons (xk_iconst hc xd_77_98 (by decide)) <|
    xl_cons (xk_ireturn hc xd_77_99) (xl_nil)
theorem xo_77 : ∀ e ∈ xm_i77, xr_sd xm_P 77 e := xl_app xo_77_0 (xo_77_1)
set_option maxRecDepth 100000 in
theorem xo_78_0 : ∀ e ∈ ([(0, 1, .aload_n 0, 0, 0, .null, [], none),
  (1, 3, .getfield 65, 9, 23, .null, [], none),
  (4, 1, .iload_n 1, 1, 0, .null, [], none),
  (5, 1, .laload, 0, 0, .null, [], none),
  (6, 1, .lstore_n 2, 2, 0, .null, [], none),
  (7, 1, .lconst 0, 0, 0, .long 0, [], none),
  (8, 2, .lstore 4, 4, 0, .null, [], none),
  (10, 1, .lload_n 2, 2, 0, .null, [], none),
  (11, 2, .lload 4, 4, 0, .null, [], none),
  (13, 1, .lcmp, 0, 0, .null, [], none),
  (14, 3, .ifCond .eq 50, 64, 0, .null, [], none),
  (17, 1, .lload_n 2, 2, 0, .null, [], none),
  (18, 2, .lstore 4, 4, 0, .null, [], none),
  (20, 1, .iconst 0, 0, 0, .int 0, [], none),
  (21, 2, .istore 6, 6, 0, .null, [], none),
  (23, 2, .iload 6, 6, 0, .null, [], none),
  (25, 1, .aload_n 0, 0, 0, .null, [], none),
  (26, 3, .getfield 35, 9, 10, .null, [], none),
  (29, 1, .iconst 0, 0, 0, .int 0, [], none),
  (30, 1, .iaload, 0, 0, .null, [], none),
  (31, 3, .if_icmp .ge 30, 61, 0, .null, [], none),
  (34, 1, .lload_n 2, 2, 0, .null, [], none),
  (35, 2, .iload 6, 6, 0, .null, [], none),
  (37, 1, .lshr, 0, 0, .null, [], none),
  (38, 1, .lconst 1, 0, 0, .long 1, [], none),
  (39, 1, .land, 0, 0, .null, [], none),
  (40, 1, .lconst 1, 0, 0, .long 1, [], none),
  (41, 1, .lcmp, 0, 0, .null, [], none),
  (42, 3, .ifCond .ne 13, 55, 0, .null, [], none),
  (45, 1, .lload_n 2, 2, 0, .null, [], none),
  (46, 1, .aload_n 0, 0, 0, .null, [], none),
  (47, 3, .getfield 65, 9, 23, .null, [], none),
  (50, 2, .iload 6, 6, 0, .null, [], none),
  (52, 1, .laload, 0, 0, .null, [], none),
  (53, 1, .lor, 0, 0, .null, [], none),
  (54, 1, .lstore_n 2, 2, 0, .null, [], none),
  (55, 3, .iinc 6 1, 6, 0, .int 1, [], none),
  (58, 3, .goto (-35), 23, 0, .null, [], none),
  (61, 3, .goto (-51), 10, 0, .null, [], none),
  (64, 1, .lload_n 2, 2, 0, .null, [], none)] : List xr_E), xr_sd xm_P 78 e := by
  have hc : xp_cd xm_P 78 = prog_12_method_49_code := rfl
  have ho : xp_own xm_P 78 = "ExchangeTextModel" := rfl
  have hm : xp_ml xm_P 78 = 7 := rfl
  exact xl_cons (xk_aload_n hc xd_78_0 rfl) <|
    xl_cons (xk_getfield (C := xm_C9) (T := xm_T9) (N := 25) hc xd_78_1 ho rfl (by decide) xm_u9 xl_198) <|
    xl_cons (xk_iload_n hc xd_78_4 rfl) <|
    xl_cons (xk_laload hc xd_78_5) <|
    xl_cons (xk_lstore_n hc xd_78_6 hm rfl (by decide)) <|
    xl_cons (xk_lconst hc xd_78_7 rfl) <|
    xl_cons (xk_lstore hc xd_78_8 hm rfl (by decide)) <|
    xl_cons (xk_lload_n hc xd_78_10 rfl) <|
    xl_cons (xk_lload hc xd_78_11 rfl) <|
    xl_cons (xk_lcmp hc xd_78_13) <|
    xl_cons (xk_ifCond hc xd_78_14 (by decide)) <|
    xl_cons (xk_lload_n hc xd_78_17 rfl) <|
    xl_cons (xk_lstore hc xd_78_18 hm rfl (by decide)) <|
    xl_cons (xk_iconst hc xd_78_20 (by decide)) <|
    xl_cons (xk_istore hc xd_78_21 hm rfl (by decide)) <|
    xl_cons (xk_iload hc xd_78_23 rfl) <|
    xl_cons (xk_aload_n hc xd_78_25 rfl) <|
    xl_cons (xk_getfield (C := xm_C9) (T := xm_T9) (N := 25) hc xd_78_26 ho rfl (by decide) xm_u9 xl_187) <|
    xl_cons (xk_iconst hc xd_78_29 (by decide)) <|
    xl_cons (xk_iaload hc xd_78_30) <|
    xl_cons (xk_if_icmp hc xd_78_31 (by decide)) <|
    xl_cons (xk_lload_n hc xd_78_34 rfl) <|
    xl_cons (xk_iload hc xd_78_35 rfl) <|
    xl_cons (xk_lshr hc xd_78_37) <|
    xl_cons (xk_lconst hc xd_78_38 rfl) <|
    xl_cons (xk_land hc xd_78_39) <|
    xl_cons (xk_lconst hc xd_78_40 rfl) <|
    xl_cons (xk_lcmp hc xd_78_41) <|
    xl_cons (xk_ifCond hc xd_78_42 (by decide)) <|
    xl_cons (xk_lload_n hc xd_78_45 rfl) <|
    xl_cons (xk_aload_n hc xd_78_46 rfl) <|
    xl_cons (xk_getfield (C := xm_C9) (T := xm_T9) (N := 25) hc xd_78_47 ho rfl (by decide) xm_u9 xl_198) <|
    xl_cons (xk_iload hc xd_78_50 rfl) <|
    xl_cons (xk_laload hc xd_78_52) <|
    xl_cons (xk_lor hc xd_78_53) <|
    xl_cons (xk_lstore_n hc xd_78_54 hm rfl (by decide)) <|
    xl_cons (xk_iinc hc xd_78_55 hm rfl (by decide) (by decide)) <|
    xl_cons (xk_goto hc xd_78_58 (by decide)) <|
    xl_cons (xk_goto hc xd_78_61 (by decide)) <|
    xl_cons (xk_lload_n hc xd_78_64 rfl) (xl_nil)
set_option maxRecDepth 100000 in
theorem xo_78_1 : ∀ e ∈ ([(65, 1, .iload_n 1, 1, 0, .null, [], none),
  (66, 1, .lshr, 0, 0, .null, [], none),
  (67, 1, .lconst 1, 0, 0, .long 1, [], none),
  (68, 1, .land, 0, 0, .null, [], none),
  (69, 1, .lconst 1, 0, 0, .long 1, [], none),
  (70, 1, .lcmp, 0, 0, .null, [], none),
  (71, 3, .ifCond .ne 7, 78, 0, .null, [], none),
  (74, 1, .iconst 1, 0, 0, .int 1, [], none),
  (75, 3, .goto 4, 79, 0, .null, [], none),
  (78, 1, .iconst 0, 0, 0, .int 0, [], none),
  (79, 1, .ireturn, 0, 0, .null, [], none)] : List xr_E), xr_sd xm_P 78 e := by
  have hc : xp_cd xm_P 78 = prog_12_method_49_code := rfl
  have ho : xp_own xm_P 78 = "ExchangeTextModel" := rfl
  have hm : xp_ml xm_P 78 = 7 := rfl
  exact xl_cons (xk_iload_n hc xd_78_65 rfl) <|
    xl_cons (xk_lshr hc xd_78_66) <|
    xl_cons (xk_lconst hc xd_78_67 rfl) <|
    xl_cons (xk_land hc xd_78_68) <|
    xl_cons (xk_lconst hc xd_78_69 rfl) <|
    xl_cons (xk_lcmp hc xd_78_70) <|
    xl_cons (xk_ifCond hc xd_78_71 (by decide)) <|
    xl_cons (xk_iconst hc xd_78_74 (by decide)) <|
    xl_cons (xk_goto hc xd_78_75 (by decide)) <|
    xl_cons (xk_iconst hc xd_78_78 (by decide)) <|
    xl_cons (xk_ireturn hc xd_78_79) (xl_nil)
theorem xo_78 : ∀ e ∈ xm_i78, xr_sd xm_P 78 e := xl_app xo_78_0 (xo_78_1)
set_option maxRecDepth 100000 in
theorem xo_79_0 : ∀ e ∈ ([(0, 1, .aload_n 0, 0, 0, .null, [], none),
  (1, 1, .iconst 0, 0, 0, .int 0, [], none),
  (2, 3, .putfield 69, 9, 0, .null, [], none),
  (5, 1, .aload_n 0, 0, 0, .null, [], none),
  (6, 1, .iload_n 1, 1, 0, .null, [], none),
  (7, 3, .ifCond .ge 7, 14, 0, .null, [], none),
  (10, 1, .iconst 1, 0, 0, .int 1, [], none),
  (11, 3, .goto 4, 15, 0, .null, [], none),
  (14, 1, .iconst 0, 0, 0, .int 0, [], none),
  (15, 1, .iconst 1, 0, 0, .int 1, [], none),
  (16, 3, .invokevirtual 75, 32, 3, .retAddr 0, [], none),
  (19, 3, .ifCond .eq 5, 24, 0, .null, [], none),
  (22, 1, .iconst 0, 0, 0, .int 0, [], none),
  (23, 1, .ireturn, 0, 0, .null, [], none),
  (24, 1, .aload_n 0, 0, 0, .null, [], none),
  (25, 3, .invokevirtual 180, 69, 1, .retAddr 0, [], none),
  (28, 1, .iload_n 1, 1, 0, .null, [], none),
  (29, 1, .istore_n 2, 2, 0, .null, [], none),
  (30, 1, .iconst 0, 0, 0, .int 0, [], none),
  (31, 1, .istore_n 3, 3, 0, .null, [], none),
  (32, 1, .iload_n 3, 3, 0, .null, [], none),
  (33, 1, .aload_n 0, 0, 0, .null, [], none),
  (34, 3, .getfield 35, 9, 10, .null, [], none),
  (37, 1, .iconst 0, 0, 0, .int 0, [], none),
  (38, 1, .iaload, 0, 0, .null, [], none),
  (39, 3, .if_icmp .ge 44, 83, 0, .null, [], none),
  (42, 1, .aload_n 0, 0, 0, .null, [], none),
  (43, 3, .getfield 59, 9, 21, .null, [], none),
  (46, 1, .iload_n 3, 3, 0, .null, [], none),
  (47, 1, .iaload, 0, 0, .null, [], none),
  (48, 1, .iconst (-1), 0, 0, .int (-1), [], none),
  (49, 3, .if_icmp .ne 28, 77, 0, .null, [], none),
  (52, 1, .aload_n 0, 0, 0, .null, [], none),
  (53, 1, .iload_n 3, 3, 0, .null, [], none),
  (54, 3, .invokevirtual 197, 78, 2, .retAddr 0, [], none),
  (57, 3, .ifCond .ne 6, 63, 0, .null, [], none),
  (60, 3, .goto 17, 77, 0, .null, [], none),
  (63, 1, .iload_n 2, 2, 0, .null, [], none),
  (64, 3, .ifCond .ne 10, 74, 0, .null, [], none),
  (67, 1, .aload_n 0, 0, 0, .null, [], none)] : List xr_E), xr_sd xm_P 79 e := by
  have hc : xp_cd xm_P 79 = prog_12_method_50_code := rfl
  have ho : xp_own xm_P 79 = "ExchangeTextModel" := rfl
  have hm : xp_ml xm_P 79 = 4 := rfl
  exact xl_cons (xk_aload_n hc xd_79_0 rfl) <|
    xl_cons (xk_iconst hc xd_79_1 (by decide)) <|
    xl_cons (xk_putfield (C := xm_C9) (T := xm_T9) (N := 25) (ty := xm_ty9) hc xd_79_2 ho rfl (by decide) xm_u9 xm_tk9 rfl xm_nm9 xl_199 rfl) <|
    xl_cons (xk_aload_n hc xd_79_5 rfl) <|
    xl_cons (xk_iload_n hc xd_79_6 rfl) <|
    xl_cons (xk_ifCond hc xd_79_7 (by decide)) <|
    xl_cons (xk_iconst hc xd_79_10 (by decide)) <|
    xl_cons (xk_goto hc xd_79_11 (by decide)) <|
    xl_cons (xk_iconst hc xd_79_14 (by decide)) <|
    xl_cons (xk_iconst hc xd_79_15 (by decide)) <|
    xl_cons (xk_callV (Y := xm_y32) ho rfl (by decide) ⟨by decide, by decide⟩ xl_202 hc xd_79_16 rfl (b' := 2) rfl xm_nd32 (T := xm_T9) (N := 25) rfl xl_201 xl_203 xl_204) <|
    xl_cons (xk_ifCond hc xd_79_19 (by decide)) <|
    xl_cons (xk_iconst hc xd_79_22 (by decide)) <|
    xl_cons (xk_ireturn hc xd_79_23) <|
    xl_cons (xk_aload_n hc xd_79_24 rfl) <|
    xl_cons (xk_callV (Y := xm_y69) ho rfl (by decide) ⟨by decide, by decide⟩ xl_202 hc xd_79_25 rfl (b' := 0) rfl xm_nd69 (T := xm_T9) (N := 25) rfl xl_283 xl_284 xl_285) <|
    xl_cons (xk_iload_n hc xd_79_28 rfl) <|
    xl_cons (xk_istore_n hc xd_79_29 hm rfl (by decide)) <|
    xl_cons (xk_iconst hc xd_79_30 (by decide)) <|
    xl_cons (xk_istore_n hc xd_79_31 hm rfl (by decide)) <|
    xl_cons (xk_iload_n hc xd_79_32 rfl) <|
    xl_cons (xk_aload_n hc xd_79_33 rfl) <|
    xl_cons (xk_getfield (C := xm_C9) (T := xm_T9) (N := 25) hc xd_79_34 ho rfl (by decide) xm_u9 xl_187) <|
    xl_cons (xk_iconst hc xd_79_37 (by decide)) <|
    xl_cons (xk_iaload hc xd_79_38) <|
    xl_cons (xk_if_icmp hc xd_79_39 (by decide)) <|
    xl_cons (xk_aload_n hc xd_79_42 rfl) <|
    xl_cons (xk_getfield (C := xm_C9) (T := xm_T9) (N := 25) hc xd_79_43 ho rfl (by decide) xm_u9 xl_195) <|
    xl_cons (xk_iload_n hc xd_79_46 rfl) <|
    xl_cons (xk_iaload hc xd_79_47) <|
    xl_cons (xk_iconst hc xd_79_48 (by decide)) <|
    xl_cons (xk_if_icmp hc xd_79_49 (by decide)) <|
    xl_cons (xk_aload_n hc xd_79_52 rfl) <|
    xl_cons (xk_iload_n hc xd_79_53 rfl) <|
    xl_cons (xk_callV (Y := xm_y78) ho rfl (by decide) ⟨by decide, by decide⟩ xl_202 hc xd_79_54 rfl (b' := 1) rfl xm_nd78 (T := xm_T9) (N := 25) rfl xl_300 xl_301 xl_302) <|
    xl_cons (xk_ifCond hc xd_79_57 (by decide)) <|
    xl_cons (xk_goto hc xd_79_60 (by decide)) <|
    xl_cons (xk_iload_n hc xd_79_63 rfl) <|
    xl_cons (xk_ifCond hc xd_79_64 (by decide)) <|
    xl_cons (xk_aload_n hc xd_79_67 rfl) (xl_nil)
set_option maxRecDepth 100000 in
theorem xo_79_1 : ∀ e ∈ ([(68, 3, .getfield 38, 9, 11, .null, [], none),
  (71, 1, .iload_n 3, 3, 0, .null, [], none),
  (72, 1, .iaload, 0, 0, .null, [], none),
  (73, 1, .ireturn, 0, 0, .null, [], none),
  (74, 3, .iinc 2 (-1), 2, 0, .int (-1), [], none),
  (77, 3, .iinc 3 1, 3, 0, .int 1, [], none),
  (80, 3, .goto (-48), 32, 0, .null, [], none),
  (83, 1, .iconst (-1), 0, 0, .int (-1), [], none),
  (84, 1, .ireturn, 0, 0, .null, [], none)] : List xr_E), xr_sd xm_P 79 e := by
  have hc : xp_cd xm_P 79 = prog_12_method_50_code := rfl
  have ho : xp_own xm_P 79 = "ExchangeTextModel" := rfl
  have hm : xp_ml xm_P 79 = 4 := rfl
  exact xl_cons (xk_getfield (C := xm_C9) (T := xm_T9) (N := 25) hc xd_79_68 ho rfl (by decide) xm_u9 xl_188) <|
    xl_cons (xk_iload_n hc xd_79_71 rfl) <|
    xl_cons (xk_iaload hc xd_79_72) <|
    xl_cons (xk_ireturn hc xd_79_73) <|
    xl_cons (xk_iinc hc xd_79_74 hm rfl (by decide) (by decide)) <|
    xl_cons (xk_iinc hc xd_79_77 hm rfl (by decide) (by decide)) <|
    xl_cons (xk_goto hc xd_79_80 (by decide)) <|
    xl_cons (xk_iconst hc xd_79_83 (by decide)) <|
    xl_cons (xk_ireturn hc xd_79_84) (xl_nil)
theorem xo_79 : ∀ e ∈ xm_i79, xr_sd xm_P 79 e := xl_app xo_79_0 (xo_79_1)
set_option maxRecDepth 100000 in
theorem xo_80_0 : ∀ e ∈ ([(0, 2, .bipush 8, 0, 0, .int 8, [], none),
  (2, 1, .iload_n 1, 1, 0, .null, [], none),
  (3, 1, .imul, 0, 0, .null, [], none),
  (4, 1, .istore_n 2, 2, 0, .null, [], none),
  (5, 1, .aload_n 0, 0, 0, .null, [], none),
  (6, 3, .getfield 47, 9, 14, .null, [], none),
  (9, 1, .iload_n 1, 1, 0, .null, [], none),
  (10, 1, .iaload, 0, 0, .null, [], none),
  (11, 1, .iconst 3, 0, 0, .int 3, [], none),
  (12, 3, .if_icmp .le 63, 75, 0, .null, [], none),
  (15, 1, .aload_n 0, 0, 0, .null, [], none),
  (16, 3, .getfield 50, 9, 15, .null, [], none),
  (19, 1, .iload_n 2, 2, 0, .null, [], none),
  (20, 1, .iaload, 0, 0, .null, [], none),
  (21, 3, .ifCond .ne 54, 75, 0, .null, [], none),
  (24, 1, .aload_n 0, 0, 0, .null, [], none),
  (25, 3, .getfield 50, 9, 15, .null, [], none),
  (28, 1, .iload_n 2, 2, 0, .null, [], none),
  (29, 1, .iconst 1, 0, 0, .int 1, [], none),
  (30, 1, .iadd, 0, 0, .null, [], none),
  (31, 1, .iaload, 0, 0, .null, [], none),
  (32, 3, .ifCond .ne 43, 75, 0, .null, [], none),
  (35, 1, .aload_n 0, 0, 0, .null, [], none),
  (36, 3, .getfield 50, 9, 15, .null, [], none),
  (39, 1, .iload_n 2, 2, 0, .null, [], none),
  (40, 1, .iconst 2, 0, 0, .int 2, [], none),
  (41, 1, .iadd, 0, 0, .null, [], none),
  (42, 1, .iaload, 0, 0, .null, [], none),
  (43, 3, .ifCond .ne 32, 75, 0, .null, [], none),
  (46, 1, .aload_n 0, 0, 0, .null, [], none),
  (47, 3, .getfield 50, 9, 15, .null, [], none),
  (50, 1, .iload_n 2, 2, 0, .null, [], none),
  (51, 1, .iconst 3, 0, 0, .int 3, [], none),
  (52, 1, .iadd, 0, 0, .null, [], none),
  (53, 1, .iaload, 0, 0, .null, [], none),
  (54, 1, .iconst 2, 0, 0, .int 2, [], none),
  (55, 3, .if_icmp .eq 16, 71, 0, .null, [], none),
  (58, 1, .aload_n 0, 0, 0, .null, [], none),
  (59, 3, .getfield 50, 9, 15, .null, [], none),
  (62, 1, .iload_n 2, 2, 0, .null, [], none)] : List xr_E), xr_sd xm_P 80 e := by
  have hc : xp_cd xm_P 80 = prog_12_method_51_code := rfl
  have ho : xp_own xm_P 80 = "ExchangeTextModel" := rfl
  have hm : xp_ml xm_P 80 = 3 := rfl
  exact xl_cons (xk_bipush hc xd_80_0 (by decide)) <|
    xl_cons (xk_iload_n hc xd_80_2 rfl) <|
    xl_cons (xk_imul hc xd_80_3) <|
    xl_cons (xk_istore_n hc xd_80_4 hm rfl (by decide)) <|
    xl_cons (xk_aload_n hc xd_80_5 rfl) <|
    xl_cons (xk_getfield (C := xm_C9) (T := xm_T9) (N := 25) hc xd_80_6 ho rfl (by decide) xm_u9 xl_191) <|
    xl_cons (xk_iload_n hc xd_80_9 rfl) <|
    xl_cons (xk_iaload hc xd_80_10) <|
    xl_cons (xk_iconst hc xd_80_11 (by decide)) <|
    xl_cons (xk_if_icmp hc xd_80_12 (by decide)) <|
    xl_cons (xk_aload_n hc xd_80_15 rfl) <|
    xl_cons (xk_getfield (C := xm_C9) (T := xm_T9) (N := 25) hc xd_80_16 ho rfl (by decide) xm_u9 xl_192) <|
    xl_cons (xk_iload_n hc xd_80_19 rfl) <|
    xl_cons (xk_iaload hc xd_80_20) <|
    xl_cons (xk_ifCond hc xd_80_21 (by decide)) <|
    xl_cons (xk_aload_n hc xd_80_24 rfl) <|
    xl_cons (xk_getfield (C := xm_C9) (T := xm_T9) (N := 25) hc xd_80_25 ho rfl (by decide) xm_u9 xl_192) <|
    xl_cons (xk_iload_n hc xd_80_28 rfl) <|
    xl_cons (xk_iconst hc xd_80_29 (by decide)) <|
    xl_cons (xk_iadd hc xd_80_30) <|
    xl_cons (xk_iaload hc xd_80_31) <|
    xl_cons (xk_ifCond hc xd_80_32 (by decide)) <|
    xl_cons (xk_aload_n hc xd_80_35 rfl) <|
    xl_cons (xk_getfield (C := xm_C9) (T := xm_T9) (N := 25) hc xd_80_36 ho rfl (by decide) xm_u9 xl_192) <|
    xl_cons (xk_iload_n hc xd_80_39 rfl) <|
    xl_cons (xk_iconst hc xd_80_40 (by decide)) <|
    xl_cons (xk_iadd hc xd_80_41) <|
    xl_cons (xk_iaload hc xd_80_42) <|
    xl_cons (xk_ifCond hc xd_80_43 (by decide)) <|
    xl_cons (xk_aload_n hc xd_80_46 rfl) <|
    xl_cons (xk_getfield (C := xm_C9) (T := xm_T9) (N := 25) hc xd_80_47 ho rfl (by decide) xm_u9 xl_192) <|
    xl_cons (xk_iload_n hc xd_80_50 rfl) <|
    xl_cons (xk_iconst hc xd_80_51 (by decide)) <|
    xl_cons (xk_iadd hc xd_80_52) <|
    xl_cons (xk_iaload hc xd_80_53) <|
    xl_cons (xk_iconst hc xd_80_54 (by decide)) <|
    xl_cons (xk_if_icmp hc xd_80_55 (by decide)) <|
    xl_cons (xk_aload_n hc xd_80_58 rfl) <|
    xl_cons (xk_getfield (C := xm_C9) (T := xm_T9) (N := 25) hc xd_80_59 ho rfl (by decide) xm_u9 xl_192) <|
    xl_cons (xk_iload_n hc xd_80_62 rfl) (xl_nil)
set_option maxRecDepth 100000 in
theorem xo_80_1 : ∀ e ∈ ([(63, 1, .iconst 3, 0, 0, .int 3, [], none),
  (64, 1, .iadd, 0, 0, .null, [], none),
  (65, 1, .iaload, 0, 0, .null, [], none),
  (66, 2, .bipush 6, 0, 0, .int 6, [], none),
  (68, 3, .if_icmp .ne 7, 75, 0, .null, [], none),
  (71, 1, .iconst 1, 0, 0, .int 1, [], none),
  (72, 3, .goto 4, 76, 0, .null, [], none),
  (75, 1, .iconst 0, 0, 0, .int 0, [], none),
  (76, 1, .ireturn, 0, 0, .null, [], none)] : List xr_E), xr_sd xm_P 80 e := by
  have hc : xp_cd xm_P 80 = prog_12_method_51_code := rfl
  have ho : xp_own xm_P 80 = "ExchangeTextModel" := rfl
  have hm : xp_ml xm_P 80 = 3 := rfl
  exact xl_cons (xk_iconst hc xd_80_63 (by decide)) <|
    xl_cons (xk_iadd hc xd_80_64) <|
    xl_cons (xk_iaload hc xd_80_65) <|
    xl_cons (xk_bipush hc xd_80_66 (by decide)) <|
    xl_cons (xk_if_icmp hc xd_80_68 (by decide)) <|
    xl_cons (xk_iconst hc xd_80_71 (by decide)) <|
    xl_cons (xk_goto hc xd_80_72 (by decide)) <|
    xl_cons (xk_iconst hc xd_80_75 (by decide)) <|
    xl_cons (xk_ireturn hc xd_80_76) (xl_nil)
theorem xo_80 : ∀ e ∈ xm_i80, xr_sd xm_P 80 e := xl_app xo_80_0 (xo_80_1)
set_option maxRecDepth 100000 in
theorem xo_81_0 : ∀ e ∈ ([(0, 1, .aload_n 0, 0, 0, .null, [], none),
  (1, 1, .iconst 0, 0, 0, .int 0, [], none),
  (2, 3, .putfield 69, 9, 0, .null, [], none),
  (5, 1, .aload_n 0, 0, 0, .null, [], none),
  (6, 1, .iconst 0, 0, 0, .int 0, [], none),
  (7, 1, .iload_n 1, 1, 0, .null, [], none),
  (8, 3, .invokevirtual 143, 50, 3, .retAddr 0, [], none),
  (11, 1, .istore_n 3, 3, 0, .null, [], none),
  (12, 1, .aload_n 0, 0, 0, .null, [], none),
  (13, 1, .iload_n 3, 3, 0, .null, [], none),
  (14, 1, .iconst (-1), 0, 0, .int (-1), [], none),
  (15, 3, .if_icmp .eq 12, 27, 0, .null, [], none),
  (18, 1, .iload_n 2, 2, 0, .null, [], none),
  (19, 3, .ifCond .lt 8, 27, 0, .null, [], none),
  (22, 1, .iload_n 2, 2, 0, .null, [], none),
  (23, 1, .iconst 2, 0, 0, .int 2, [], none),
  (24, 3, .if_icmp .le 7, 31, 0, .null, [], none),
  (27, 1, .iconst 1, 0, 0, .int 1, [], none),
  (28, 3, .goto 4, 32, 0, .null, [], none),
  (31, 1, .iconst 0, 0, 0, .int 0, [], none),
  (32, 1, .iconst 1, 0, 0, .int 1, [], none),
  (33, 3, .invokevirtual 75, 32, 3, .retAddr 0, [], none),
  (36, 3, .ifCond .ne 24, 60, 0, .null, [], none),
  (39, 1, .aload_n 0, 0, 0, .null, [], none),
  (40, 1, .aload_n 0, 0, 0, .null, [], none),
  (41, 1, .iload_n 3, 3, 0, .null, [], none),
  (42, 3, .invokevirtual 200, 80, 2, .retAddr 0, [], none),
  (45, 3, .ifCond .ne 7, 52, 0, .null, [], none),
  (48, 1, .iconst 1, 0, 0, .int 1, [], none),
  (49, 3, .goto 4, 53, 0, .null, [], none),
  (52, 1, .iconst 0, 0, 0, .int 0, [], none),
  (53, 1, .iconst 1, 0, 0, .int 1, [], none),
  (54, 3, .invokevirtual 75, 32, 3, .retAddr 0, [], none),
  (57, 3, .ifCond .eq 5, 62, 0, .null, [], none),
  (60, 1, .lconst 0, 0, 0, .long 0, [], none),
  (61, 1, .lreturn, 0, 0, .null, [], none),
  (62, 1, .lconst 0, 0, 0, .long 0, [], none),
  (63, 2, .lstore 4, 4, 0, .null, [], none),
  (65, 1, .iconst 0, 0, 0, .int 0, [], none),
  (66, 2, .istore 6, 6, 0, .null, [], none)] : List xr_E), xr_sd xm_P 81 e := by
  have hc : xp_cd xm_P 81 = prog_12_method_52_code := rfl
  have ho : xp_own xm_P 81 = "ExchangeTextModel" := rfl
  have hm : xp_ml xm_P 81 = 8 := rfl
  exact xl_cons (xk_aload_n hc xd_81_0 rfl) <|
    xl_cons (xk_iconst hc xd_81_1 (by decide)) <|
    xl_cons (xk_putfield (C := xm_C9) (T := xm_T9) (N := 25) (ty := xm_ty9) hc xd_81_2 ho rfl (by decide) xm_u9 xm_tk9 rfl xm_nm9 xl_199 rfl) <|
    xl_cons (xk_aload_n hc xd_81_5 rfl) <|
    xl_cons (xk_iconst hc xd_81_6 (by decide)) <|
    xl_cons (xk_iload_n hc xd_81_7 rfl) <|
    xl_cons (xk_callV (Y := xm_y50) ho rfl (by decide) ⟨by decide, by decide⟩ xl_202 hc xd_81_8 rfl (b' := 2) rfl xm_nd50 (T := xm_T9) (N := 25) rfl xl_249 xl_250 xl_251) <|
    xl_cons (xk_istore_n hc xd_81_11 hm rfl (by decide)) <|
    xl_cons (xk_aload_n hc xd_81_12 rfl) <|
    xl_cons (xk_iload_n hc xd_81_13 rfl) <|
    xl_cons (xk_iconst hc xd_81_14 (by decide)) <|
    xl_cons (xk_if_icmp hc xd_81_15 (by decide)) <|
    xl_cons (xk_iload_n hc xd_81_18 rfl) <|
    xl_cons (xk_ifCond hc xd_81_19 (by decide)) <|
    xl_cons (xk_iload_n hc xd_81_22 rfl) <|
    xl_cons (xk_iconst hc xd_81_23 (by decide)) <|
    xl_cons (xk_if_icmp hc xd_81_24 (by decide)) <|
    xl_cons (xk_iconst hc xd_81_27 (by decide)) <|
    xl_cons (xk_goto hc xd_81_28 (by decide)) <|
    xl_cons (xk_iconst hc xd_81_31 (by decide)) <|
    xl_cons (xk_iconst hc xd_81_32 (by decide)) <|
    xl_cons (xk_callV (Y := xm_y32) ho rfl (by decide) ⟨by decide, by decide⟩ xl_202 hc xd_81_33 rfl (b' := 2) rfl xm_nd32 (T := xm_T9) (N := 25) rfl xl_201 xl_203 xl_204) <|
    xl_cons (xk_ifCond hc xd_81_36 (by decide)) <|
    xl_cons (xk_aload_n hc xd_81_39 rfl) <|
    xl_cons (xk_aload_n hc xd_81_40 rfl) <|
    xl_cons (xk_iload_n hc xd_81_41 rfl) <|
    xl_cons (xk_callV (Y := xm_y80) ho rfl (by decide) ⟨by decide, by decide⟩ xl_202 hc xd_81_42 rfl (b' := 1) rfl xm_nd80 (T := xm_T9) (N := 25) rfl xl_303 xl_304 xl_305) <|
    xl_cons (xk_ifCond hc xd_81_45 (by decide)) <|
    xl_cons (xk_iconst hc xd_81_48 (by decide)) <|
    xl_cons (xk_goto hc xd_81_49 (by decide)) <|
    xl_cons (xk_iconst hc xd_81_52 (by decide)) <|
    xl_cons (xk_iconst hc xd_81_53 (by decide)) <|
    xl_cons (xk_callV (Y := xm_y32) ho rfl (by decide) ⟨by decide, by decide⟩ xl_202 hc xd_81_54 rfl (b' := 2) rfl xm_nd32 (T := xm_T9) (N := 25) rfl xl_201 xl_203 xl_204) <|
    xl_cons (xk_ifCond hc xd_81_57 (by decide)) <|
    xl_cons (xk_lconst hc xd_81_60 rfl) <|
    xl_cons (xk_lreturn hc xd_81_61) <|
    xl_cons (xk_lconst hc xd_81_62 rfl) <|
    xl_cons (xk_lstore hc xd_81_63 hm rfl (by decide)) <|
    xl_cons (xk_iconst hc xd_81_65 (by decide)) <|
    xl_cons (xk_istore hc xd_81_66 hm rfl (by decide)) (xl_nil)
set_option maxRecDepth 100000 in
theorem xo_81_1 : ∀ e ∈ ([(68, 1, .iload_n 3, 3, 0, .null, [], none),
  (69, 1, .iconst (-1), 0, 0, .int (-1), [], none),
  (70, 3, .if_icmp .eq 100, 170, 0, .null, [], none),
  (73, 2, .iload 6, 6, 0, .null, [], none),
  (75, 1, .aload_n 0, 0, 0, .null, [], none),
  (76, 3, .getfield 35, 9, 10, .null, [], none),
  (79, 1, .iconst 0, 0, 0, .int 0, [], none),
  (80, 1, .iaload, 0, 0, .null, [], none),
  (81, 3, .if_icmp .le 7, 88, 0, .null, [], none),
  (84, 3, .ldc2_w 203, 0, 0, .long 1000000000000, [], none),
  (87, 1, .lreturn, 0, 0, .null, [], none),
  (88, 3, .iinc 6 1, 6, 0, .int 1, [], none),
  (91, 2, .lload 4, 4, 0, .null, [], none),
  (93, 1, .aload_n 0, 0, 0, .null, [], none),
  (94, 3, .getfield 53, 9, 16, .null, [], none),
  (97, 2, .bipush 8, 0, 0, .int 8, [], none),
  (99, 1, .iload_n 3, 3, 0, .null, [], none),
  (100, 1, .imul, 0, 0, .null, [], none),
  (101, 1, .iload_n 2, 2, 0, .null, [], none),
  (102, 1, .iadd, 0, 0, .null, [], none),
  (103, 1, .iaload, 0, 0, .null, [], none),
  (104, 1, .i2l, 0, 0, .null, [], none),
  (105, 1, .ladd, 0, 0, .null, [], none),
  (106, 2, .lstore 4, 4, 0, .null, [], none),
  (108, 1, .aload_n 0, 0, 0, .null, [], none),
  (109, 3, .getfield 50, 9, 15, .null, [], none),
  (112, 2, .bipush 8, 0, 0, .int 8, [], none),
  (114, 1, .iload_n 3, 3, 0, .null, [], none),
  (115, 1, .imul, 0, 0, .null, [], none),
  (116, 1, .iconst 3, 0, 0, .int 3, [], none),
  (117, 1, .iadd, 0, 0, .null, [], none),
  (118, 1, .iaload, 0, 0, .null, [], none),
  (119, 1, .iconst 2, 0, 0, .int 2, [], none),
  (120, 3, .if_icmp .ne 22, 142, 0, .null, [], none),
  (123, 1, .aload_n 0, 0, 0, .null, [], none),
  (124, 1, .iconst 0, 0, 0, .int 0, [], none),
  (125, 1, .aload_n 0, 0, 0, .null, [], none),
  (126, 3, .getfield 53, 9, 16, .null, [], none),
  (129, 2, .bipush 8, 0, 0, .int 8, [], none),
  (131, 1, .iload_n 3, 3, 0, .null, [], none)] : List xr_E), xr_sd xm_P 81 e := by
  have hc : xp_cd xm_P 81 = prog_12_method_52_code := rfl
  have ho : xp_own xm_P 81 = "ExchangeTextModel" := rfl
  have hm : xp_ml xm_P 81 = 8 := rfl
  exact xl_cons (xk_iload_n hc xd_81_68 rfl) <|
    xl_cons (xk_iconst hc xd_81_69 (by decide)) <|
    xl_cons (xk_if_icmp hc xd_81_70 (by decide)) <|
    xl_cons (xk_iload hc xd_81_73 rfl) <|
    xl_cons (xk_aload_n hc xd_81_75 rfl) <|
    xl_cons (xk_getfield (C := xm_C9) (T := xm_T9) (N := 25) hc xd_81_76 ho rfl (by decide) xm_u9 xl_187) <|
    xl_cons (xk_iconst hc xd_81_79 (by decide)) <|
    xl_cons (xk_iaload hc xd_81_80) <|
    xl_cons (xk_if_icmp hc xd_81_81 (by decide)) <|
    xl_cons (xk_ldc2 hc xd_81_84 ho rfl xl_306) <|
    xl_cons (xk_lreturn hc xd_81_87) <|
    xl_cons (xk_iinc hc xd_81_88 hm rfl (by decide) (by decide)) <|
    xl_cons (xk_lload hc xd_81_91 rfl) <|
    xl_cons (xk_aload_n hc xd_81_93 rfl) <|
    xl_cons (xk_getfield (C := xm_C9) (T := xm_T9) (N := 25) hc xd_81_94 ho rfl (by decide) xm_u9 xl_193) <|
    xl_cons (xk_bipush hc xd_81_97 (by decide)) <|
    xl_cons (xk_iload_n hc xd_81_99 rfl) <|
    xl_cons (xk_imul hc xd_81_100) <|
    xl_cons (xk_iload_n hc xd_81_101 rfl) <|
    xl_cons (xk_iadd hc xd_81_102) <|
    xl_cons (xk_iaload hc xd_81_103) <|
    xl_cons (xk_i2l hc xd_81_104) <|
    xl_cons (xk_ladd hc xd_81_105) <|
    xl_cons (xk_lstore hc xd_81_106 hm rfl (by decide)) <|
    xl_cons (xk_aload_n hc xd_81_108 rfl) <|
    xl_cons (xk_getfield (C := xm_C9) (T := xm_T9) (N := 25) hc xd_81_109 ho rfl (by decide) xm_u9 xl_192) <|
    xl_cons (xk_bipush hc xd_81_112 (by decide)) <|
    xl_cons (xk_iload_n hc xd_81_114 rfl) <|
    xl_cons (xk_imul hc xd_81_115) <|
    xl_cons (xk_iconst hc xd_81_116 (by decide)) <|
    xl_cons (xk_iadd hc xd_81_117) <|
    xl_cons (xk_iaload hc xd_81_118) <|
    xl_cons (xk_iconst hc xd_81_119 (by decide)) <|
    xl_cons (xk_if_icmp hc xd_81_120 (by decide)) <|
    xl_cons (xk_aload_n hc xd_81_123 rfl) <|
    xl_cons (xk_iconst hc xd_81_124 (by decide)) <|
    xl_cons (xk_aload_n hc xd_81_125 rfl) <|
    xl_cons (xk_getfield (C := xm_C9) (T := xm_T9) (N := 25) hc xd_81_126 ho rfl (by decide) xm_u9 xl_193) <|
    xl_cons (xk_bipush hc xd_81_129 (by decide)) <|
    xl_cons (xk_iload_n hc xd_81_131 rfl) (xl_nil)
set_option maxRecDepth 100000 in
theorem xo_81_2 : ∀ e ∈ ([(132, 1, .imul, 0, 0, .null, [], none),
  (133, 1, .iconst 3, 0, 0, .int 3, [], none),
  (134, 1, .iadd, 0, 0, .null, [], none),
  (135, 1, .iaload, 0, 0, .null, [], none),
  (136, 3, .invokevirtual 143, 50, 3, .retAddr 0, [], none),
  (139, 3, .goto 4, 143, 0, .null, [], none),
  (142, 1, .iconst (-1), 0, 0, .int (-1), [], none),
  (143, 2, .istore 7, 7, 0, .null, [], none),
  (145, 2, .iload 7, 7, 0, .null, [], none),
  (147, 1, .iconst (-1), 0, 0, .int (-1), [], none),
  (148, 3, .if_icmp .eq 17, 165, 0, .null, [], none),
  (151, 1, .aload_n 0, 0, 0, .null, [], none),
  (152, 2, .iload 7, 7, 0, .null, [], none),
  (154, 3, .invokevirtual 200, 80, 2, .retAddr 0, [], none),
  (157, 3, .ifCond .eq 8, 165, 0, .null, [], none),
  (160, 2, .iload 7, 7, 0, .null, [], none),
  (162, 3, .goto 4, 166, 0, .null, [], none),
  (165, 1, .iconst (-1), 0, 0, .int (-1), [], none),
  (166, 1, .istore_n 3, 3, 0, .null, [], none),
  (167, 3, .goto (-99), 68, 0, .null, [], none),
  (170, 2, .lload 4, 4, 0, .null, [], none),
  (172, 1, .lreturn, 0, 0, .null, [], none)] : List xr_E), xr_sd xm_P 81 e := by
  have hc : xp_cd xm_P 81 = prog_12_method_52_code := rfl
  have ho : xp_own xm_P 81 = "ExchangeTextModel" := rfl
  have hm : xp_ml xm_P 81 = 8 := rfl
  exact xl_cons (xk_imul hc xd_81_132) <|
    xl_cons (xk_iconst hc xd_81_133 (by decide)) <|
    xl_cons (xk_iadd hc xd_81_134) <|
    xl_cons (xk_iaload hc xd_81_135) <|
    xl_cons (xk_callV (Y := xm_y50) ho rfl (by decide) ⟨by decide, by decide⟩ xl_202 hc xd_81_136 rfl (b' := 2) rfl xm_nd50 (T := xm_T9) (N := 25) rfl xl_249 xl_250 xl_251) <|
    xl_cons (xk_goto hc xd_81_139 (by decide)) <|
    xl_cons (xk_iconst hc xd_81_142 (by decide)) <|
    xl_cons (xk_istore hc xd_81_143 hm rfl (by decide)) <|
    xl_cons (xk_iload hc xd_81_145 rfl) <|
    xl_cons (xk_iconst hc xd_81_147 (by decide)) <|
    xl_cons (xk_if_icmp hc xd_81_148 (by decide)) <|
    xl_cons (xk_aload_n hc xd_81_151 rfl) <|
    xl_cons (xk_iload hc xd_81_152 rfl) <|
    xl_cons (xk_callV (Y := xm_y80) ho rfl (by decide) ⟨by decide, by decide⟩ xl_202 hc xd_81_154 rfl (b' := 1) rfl xm_nd80 (T := xm_T9) (N := 25) rfl xl_303 xl_304 xl_305) <|
    xl_cons (xk_ifCond hc xd_81_157 (by decide)) <|
    xl_cons (xk_iload hc xd_81_160 rfl) <|
    xl_cons (xk_goto hc xd_81_162 (by decide)) <|
    xl_cons (xk_iconst hc xd_81_165 (by decide)) <|
    xl_cons (xk_istore_n hc xd_81_166 hm rfl (by decide)) <|
    xl_cons (xk_goto hc xd_81_167 (by decide)) <|
    xl_cons (xk_lload hc xd_81_170 rfl) <|
    xl_cons (xk_lreturn hc xd_81_172) (xl_nil)
theorem xo_81 : ∀ e ∈ xm_i81, xr_sd xm_P 81 e := xl_app xo_81_0 (xl_app xo_81_1 (xo_81_2))
set_option maxRecDepth 100000 in
theorem xo_82_0 : ∀ e ∈ ([(0, 1, .aload_n 0, 0, 0, .null, [], none),
  (1, 3, .getfield 50, 9, 15, .null, [], none),
  (4, 1, .iload_n 1, 1, 0, .null, [], none),
  (5, 1, .iaload, 0, 0, .null, [], none),
  (6, 1, .aload_n 0, 0, 0, .null, [], none),
  (7, 3, .getfield 50, 9, 15, .null, [], none),
  (10, 1, .iload_n 2, 2, 0, .null, [], none),
  (11, 1, .iaload, 0, 0, .null, [], none),
  (12, 3, .if_icmp .eq 5, 17, 0, .null, [], none),
  (15, 1, .iconst 0, 0, 0, .int 0, [], none),
  (16, 1, .ireturn, 0, 0, .null, [], none),
  (17, 1, .aload_n 0, 0, 0, .null, [], none),
  (18, 3, .getfield 50, 9, 15, .null, [], none),
  (21, 1, .iload_n 1, 1, 0, .null, [], none),
  (22, 1, .iaload, 0, 0, .null, [], none),
  (23, 3, .ifCond .eq 14, 37, 0, .null, [], none),
  (26, 1, .aload_n 0, 0, 0, .null, [], none),
  (27, 3, .getfield 50, 9, 15, .null, [], none),
  (30, 1, .iload_n 1, 1, 0, .null, [], none),
  (31, 1, .iaload, 0, 0, .null, [], none),
  (32, 2, .bipush 6, 0, 0, .int 6, [], none),
  (34, 3, .if_icmp .ne 24, 58, 0, .null, [], none),
  (37, 1, .aload_n 0, 0, 0, .null, [], none),
  (38, 3, .getfield 53, 9, 16, .null, [], none),
  (41, 1, .iload_n 1, 1, 0, .null, [], none),
  (42, 1, .iaload, 0, 0, .null, [], none),
  (43, 1, .aload_n 0, 0, 0, .null, [], none),
  (44, 3, .getfield 53, 9, 16, .null, [], none),
  (47, 1, .iload_n 2, 2, 0, .null, [], none),
  (48, 1, .iaload, 0, 0, .null, [], none),
  (49, 3, .if_icmp .ne 7, 56, 0, .null, [], none),
  (52, 1, .iconst 1, 0, 0, .int 1, [], none),
  (53, 3, .goto 4, 57, 0, .null, [], none),
  (56, 1, .iconst 0, 0, 0, .int 0, [], none),
  (57, 1, .ireturn, 0, 0, .null, [], none),
  (58, 1, .aload_n 0, 0, 0, .null, [], none),
  (59, 3, .getfield 50, 9, 15, .null, [], none),
  (62, 1, .iload_n 1, 1, 0, .null, [], none),
  (63, 1, .iaload, 0, 0, .null, [], none),
  (64, 1, .iconst 2, 0, 0, .int 2, [], none)] : List xr_E), xr_sd xm_P 82 e := by
  have hc : xp_cd xm_P 82 = prog_12_method_53_code := rfl
  have ho : xp_own xm_P 82 = "ExchangeTextModel" := rfl
  have hm : xp_ml xm_P 82 = 5 := rfl
  exact xl_cons (xk_aload_n hc xd_82_0 rfl) <|
    xl_cons (xk_getfield (C := xm_C9) (T := xm_T9) (N := 25) hc xd_82_1 ho rfl (by decide) xm_u9 xl_192) <|
    xl_cons (xk_iload_n hc xd_82_4 rfl) <|
    xl_cons (xk_iaload hc xd_82_5) <|
    xl_cons (xk_aload_n hc xd_82_6 rfl) <|
    xl_cons (xk_getfield (C := xm_C9) (T := xm_T9) (N := 25) hc xd_82_7 ho rfl (by decide) xm_u9 xl_192) <|
    xl_cons (xk_iload_n hc xd_82_10 rfl) <|
    xl_cons (xk_iaload hc xd_82_11) <|
    xl_cons (xk_if_icmp hc xd_82_12 (by decide)) <|
    xl_cons (xk_iconst hc xd_82_15 (by decide)) <|
    xl_cons (xk_ireturn hc xd_82_16) <|
    xl_cons (xk_aload_n hc xd_82_17 rfl) <|
    xl_cons (xk_getfield (C := xm_C9) (T := xm_T9) (N := 25) hc xd_82_18 ho rfl (by decide) xm_u9 xl_192) <|
    xl_cons (xk_iload_n hc xd_82_21 rfl) <|
    xl_cons (xk_iaload hc xd_82_22) <|
    xl_cons (xk_ifCond hc xd_82_23 (by decide)) <|
    xl_cons (xk_aload_n hc xd_82_26 rfl) <|
    xl_cons (xk_getfield (C := xm_C9) (T := xm_T9) (N := 25) hc xd_82_27 ho rfl (by decide) xm_u9 xl_192) <|
    xl_cons (xk_iload_n hc xd_82_30 rfl) <|
    xl_cons (xk_iaload hc xd_82_31) <|
    xl_cons (xk_bipush hc xd_82_32 (by decide)) <|
    xl_cons (xk_if_icmp hc xd_82_34 (by decide)) <|
    xl_cons (xk_aload_n hc xd_82_37 rfl) <|
    xl_cons (xk_getfield (C := xm_C9) (T := xm_T9) (N := 25) hc xd_82_38 ho rfl (by decide) xm_u9 xl_193) <|
    xl_cons (xk_iload_n hc xd_82_41 rfl) <|
    xl_cons (xk_iaload hc xd_82_42) <|
    xl_cons (xk_aload_n hc xd_82_43 rfl) <|
    xl_cons (xk_getfield (C := xm_C9) (T := xm_T9) (N := 25) hc xd_82_44 ho rfl (by decide) xm_u9 xl_193) <|
    xl_cons (xk_iload_n hc xd_82_47 rfl) <|
    xl_cons (xk_iaload hc xd_82_48) <|
    xl_cons (xk_if_icmp hc xd_82_49 (by decide)) <|
    xl_cons (xk_iconst hc xd_82_52 (by decide)) <|
    xl_cons (xk_goto hc xd_82_53 (by decide)) <|
    xl_cons (xk_iconst hc xd_82_56 (by decide)) <|
    xl_cons (xk_ireturn hc xd_82_57) <|
    xl_cons (xk_aload_n hc xd_82_58 rfl) <|
    xl_cons (xk_getfield (C := xm_C9) (T := xm_T9) (N := 25) hc xd_82_59 ho rfl (by decide) xm_u9 xl_192) <|
    xl_cons (xk_iload_n hc xd_82_62 rfl) <|
    xl_cons (xk_iaload hc xd_82_63) <|
    xl_cons (xk_iconst hc xd_82_64 (by decide)) (xl_nil)
set_option maxRecDepth 100000 in
theorem xo_82_1 : ∀ e ∈ ([(65, 3, .if_icmp .ne 34, 99, 0, .null, [], none),
  (68, 1, .aload_n 0, 0, 0, .null, [], none),
  (69, 3, .getfield 62, 9, 22, .null, [], none),
  (72, 1, .aload_n 0, 0, 0, .null, [], none),
  (73, 1, .iload_n 1, 1, 0, .null, [], none),
  (74, 1, .iconst 0, 0, 0, .int 0, [], none),
  (75, 3, .invokevirtual 174, 66, 3, .retAddr 0, [], none),
  (78, 1, .iaload, 0, 0, .null, [], none),
  (79, 1, .aload_n 0, 0, 0, .null, [], none),
  (80, 3, .getfield 62, 9, 22, .null, [], none),
  (83, 1, .aload_n 0, 0, 0, .null, [], none),
  (84, 1, .iload_n 2, 2, 0, .null, [], none),
  (85, 1, .iconst 0, 0, 0, .int 0, [], none),
  (86, 3, .invokevirtual 174, 66, 3, .retAddr 0, [], none),
  (89, 1, .iaload, 0, 0, .null, [], none),
  (90, 3, .if_icmp .ne 7, 97, 0, .null, [], none),
  (93, 1, .iconst 1, 0, 0, .int 1, [], none),
  (94, 3, .goto 4, 98, 0, .null, [], none),
  (97, 1, .iconst 0, 0, 0, .int 0, [], none),
  (98, 1, .ireturn, 0, 0, .null, [], none),
  (99, 1, .aload_n 0, 0, 0, .null, [], none),
  (100, 3, .getfield 53, 9, 16, .null, [], none),
  (103, 1, .iload_n 1, 1, 0, .null, [], none),
  (104, 1, .iaload, 0, 0, .null, [], none),
  (105, 1, .aload_n 0, 0, 0, .null, [], none),
  (106, 3, .getfield 53, 9, 16, .null, [], none),
  (109, 1, .iload_n 2, 2, 0, .null, [], none),
  (110, 1, .iaload, 0, 0, .null, [], none),
  (111, 3, .if_icmp .eq 5, 116, 0, .null, [], none),
  (114, 1, .iconst 0, 0, 0, .int 0, [], none),
  (115, 1, .ireturn, 0, 0, .null, [], none),
  (116, 1, .aload_n 0, 0, 0, .null, [], none),
  (117, 3, .getfield 50, 9, 15, .null, [], none),
  (120, 1, .iload_n 1, 1, 0, .null, [], none),
  (121, 1, .iaload, 0, 0, .null, [], none),
  (122, 1, .iconst 4, 0, 0, .int 4, [], none),
  (123, 3, .if_icmp .eq 29, 152, 0, .null, [], none),
  (126, 1, .aload_n 0, 0, 0, .null, [], none),
  (127, 3, .getfield 56, 9, 17, .null, [], none),
  (130, 2, .bipush 20, 0, 0, .int 20, [], none)] : List xr_E), xr_sd xm_P 82 e := by
  have hc : xp_cd xm_P 82 = prog_12_method_53_code := rfl
  have ho : xp_own xm_P 82 = "ExchangeTextModel" := rfl
  have hm : xp_ml xm_P 82 = 5 := rfl
  exact xl_cons (xk_if_icmp hc xd_82_65 (by decide)) <|
    xl_cons (xk_aload_n hc xd_82_68 rfl) <|
    xl_cons (xk_getfield (C := xm_C9) (T := xm_T9) (N := 25) hc xd_82_69 ho rfl (by decide) xm_u9 xl_196) <|
    xl_cons (xk_aload_n hc xd_82_72 rfl) <|
    xl_cons (xk_iload_n hc xd_82_73 rfl) <|
    xl_cons (xk_iconst hc xd_82_74 (by decide)) <|
    xl_cons (xk_callV (Y := xm_y66) ho rfl (by decide) ⟨by decide, by decide⟩ xl_202 hc xd_82_75 rfl (b' := 2) rfl xm_nd66 (T := xm_T9) (N := 25) rfl xl_277 xl_278 xl_279) <|
    xl_cons (xk_iaload hc xd_82_78) <|
    xl_cons (xk_aload_n hc xd_82_79 rfl) <|
    xl_cons (xk_getfield (C := xm_C9) (T := xm_T9) (N := 25) hc xd_82_80 ho rfl (by decide) xm_u9 xl_196) <|
    xl_cons (xk_aload_n hc xd_82_83 rfl) <|
    xl_cons (xk_iload_n hc xd_82_84 rfl) <|
    xl_cons (xk_iconst hc xd_82_85 (by decide)) <|
    xl_cons (xk_callV (Y := xm_y66) ho rfl (by decide) ⟨by decide, by decide⟩ xl_202 hc xd_82_86 rfl (b' := 2) rfl xm_nd66 (T := xm_T9) (N := 25) rfl xl_277 xl_278 xl_279) <|
    xl_cons (xk_iaload hc xd_82_89) <|
    xl_cons (xk_if_icmp hc xd_82_90 (by decide)) <|
    xl_cons (xk_iconst hc xd_82_93 (by decide)) <|
    xl_cons (xk_goto hc xd_82_94 (by decide)) <|
    xl_cons (xk_iconst hc xd_82_97 (by decide)) <|
    xl_cons (xk_ireturn hc xd_82_98) <|
    xl_cons (xk_aload_n hc xd_82_99 rfl) <|
    xl_cons (xk_getfield (C := xm_C9) (T := xm_T9) (N := 25) hc xd_82_100 ho rfl (by decide) xm_u9 xl_193) <|
    xl_cons (xk_iload_n hc xd_82_103 rfl) <|
    xl_cons (xk_iaload hc xd_82_104) <|
    xl_cons (xk_aload_n hc xd_82_105 rfl) <|
    xl_cons (xk_getfield (C := xm_C9) (T := xm_T9) (N := 25) hc xd_82_106 ho rfl (by decide) xm_u9 xl_193) <|
    xl_cons (xk_iload_n hc xd_82_109 rfl) <|
    xl_cons (xk_iaload hc xd_82_110) <|
    xl_cons (xk_if_icmp hc xd_82_111 (by decide)) <|
    xl_cons (xk_iconst hc xd_82_114 (by decide)) <|
    xl_cons (xk_ireturn hc xd_82_115) <|
    xl_cons (xk_aload_n hc xd_82_116 rfl) <|
    xl_cons (xk_getfield (C := xm_C9) (T := xm_T9) (N := 25) hc xd_82_117 ho rfl (by decide) xm_u9 xl_192) <|
    xl_cons (xk_iload_n hc xd_82_120 rfl) <|
    xl_cons (xk_iaload hc xd_82_121) <|
    xl_cons (xk_iconst hc xd_82_122 (by decide)) <|
    xl_cons (xk_if_icmp hc xd_82_123 (by decide)) <|
    xl_cons (xk_aload_n hc xd_82_126 rfl) <|
    xl_cons (xk_getfield (C := xm_C9) (T := xm_T9) (N := 25) hc xd_82_127 ho rfl (by decide) xm_u9 xl_194) <|
    xl_cons (xk_bipush hc xd_82_130 (by decide)) (xl_nil)
set_option maxRecDepth 100000 in
theorem xo_82_2 : ∀ e ∈ ([(132, 1, .iload_n 1, 1, 0, .null, [], none),
  (133, 1, .imul, 0, 0, .null, [], none),
  (134, 1, .aload_n 0, 0, 0, .null, [], none),
  (135, 3, .getfield 56, 9, 17, .null, [], none),
  (138, 2, .bipush 20, 0, 0, .int 20, [], none),
  (140, 1, .iload_n 2, 2, 0, .null, [], none),
  (141, 1, .imul, 0, 0, .null, [], none),
  (142, 1, .aload_n 0, 0, 0, .null, [], none),
  (143, 3, .getfield 53, 9, 16, .null, [], none),
  (146, 1, .iload_n 1, 1, 0, .null, [], none),
  (147, 1, .iaload, 0, 0, .null, [], none),
  (148, 3, .invokestatic 117, 47, 5, .retAddr 2, [], none),
  (151, 1, .ireturn, 0, 0, .null, [], none),
  (152, 1, .iconst 1, 0, 0, .int 1, [], none),
  (153, 1, .istore_n 3, 3, 0, .null, [], none),
  (154, 1, .iconst 0, 0, 0, .int 0, [], none),
  (155, 2, .istore 4, 4, 0, .null, [], none),
  (157, 2, .iload 4, 4, 0, .null, [], none),
  (159, 1, .aload_n 0, 0, 0, .null, [], none),
  (160, 3, .getfield 53, 9, 16, .null, [], none),
  (163, 1, .iload_n 1, 1, 0, .null, [], none),
  (164, 1, .iaload, 0, 0, .null, [], none),
  (165, 3, .if_icmp .ge 46, 211, 0, .null, [], none),
  (168, 1, .iload_n 3, 3, 0, .null, [], none),
  (169, 3, .ifCond .eq 34, 203, 0, .null, [], none),
  (172, 1, .aload_n 0, 0, 0, .null, [], none),
  (173, 3, .getfield 62, 9, 22, .null, [], none),
  (176, 1, .aload_n 0, 0, 0, .null, [], none),
  (177, 1, .iload_n 1, 1, 0, .null, [], none),
  (178, 2, .iload 4, 4, 0, .null, [], none),
  (180, 3, .invokevirtual 174, 66, 3, .retAddr 0, [], none),
  (183, 1, .iaload, 0, 0, .null, [], none),
  (184, 1, .aload_n 0, 0, 0, .null, [], none),
  (185, 3, .getfield 62, 9, 22, .null, [], none),
  (188, 1, .aload_n 0, 0, 0, .null, [], none),
  (189, 1, .iload_n 2, 2, 0, .null, [], none),
  (190, 2, .iload 4, 4, 0, .null, [], none),
  (192, 3, .invokevirtual 174, 66, 3, .retAddr 0, [], none),
  (195, 1, .iaload, 0, 0, .null, [], none),
  (196, 3, .if_icmp .ne 7, 203, 0, .null, [], none)] : List xr_E), xr_sd xm_P 82 e := by
  have hc : xp_cd xm_P 82 = prog_12_method_53_code := rfl
  have ho : xp_own xm_P 82 = "ExchangeTextModel" := rfl
  have hm : xp_ml xm_P 82 = 5 := rfl
  exact xl_cons (xk_iload_n hc xd_82_132 rfl) <|
    xl_cons (xk_imul hc xd_82_133) <|
    xl_cons (xk_aload_n hc xd_82_134 rfl) <|
    xl_cons (xk_getfield (C := xm_C9) (T := xm_T9) (N := 25) hc xd_82_135 ho rfl (by decide) xm_u9 xl_194) <|
    xl_cons (xk_bipush hc xd_82_138 (by decide)) <|
    xl_cons (xk_iload_n hc xd_82_140 rfl) <|
    xl_cons (xk_imul hc xd_82_141) <|
    xl_cons (xk_aload_n hc xd_82_142 rfl) <|
    xl_cons (xk_getfield (C := xm_C9) (T := xm_T9) (N := 25) hc xd_82_143 ho rfl (by decide) xm_u9 xl_193) <|
    xl_cons (xk_iload_n hc xd_82_146 rfl) <|
    xl_cons (xk_iaload hc xd_82_147) <|
    xl_cons (xk_callS (Y := xm_y47) ho rfl (by decide) ⟨by decide, by decide⟩ xl_202 hc xd_82_148 rfl xm_nd47 xl_228 xl_229) <|
    xl_cons (xk_ireturn hc xd_82_151) <|
    xl_cons (xk_iconst hc xd_82_152 (by decide)) <|
    xl_cons (xk_istore_n hc xd_82_153 hm rfl (by decide)) <|
    xl_cons (xk_iconst hc xd_82_154 (by decide)) <|
    xl_cons (xk_istore hc xd_82_155 hm rfl (by decide)) <|
    xl_cons (xk_iload hc xd_82_157 rfl) <|
    xl_cons (xk_aload_n hc xd_82_159 rfl) <|
    xl_cons (xk_getfield (C := xm_C9) (T := xm_T9) (N := 25) hc xd_82_160 ho rfl (by decide) xm_u9 xl_193) <|
    xl_cons (xk_iload_n hc xd_82_163 rfl) <|
    xl_cons (xk_iaload hc xd_82_164) <|
    xl_cons (xk_if_icmp hc xd_82_165 (by decide)) <|
    xl_cons (xk_iload_n hc xd_82_168 rfl) <|
    xl_cons (xk_ifCond hc xd_82_169 (by decide)) <|
    xl_cons (xk_aload_n hc xd_82_172 rfl) <|
    xl_cons (xk_getfield (C := xm_C9) (T := xm_T9) (N := 25) hc xd_82_173 ho rfl (by decide) xm_u9 xl_196) <|
    xl_cons (xk_aload_n hc xd_82_176 rfl) <|
    xl_cons (xk_iload_n hc xd_82_177 rfl) <|
    xl_cons (xk_iload hc xd_82_178 rfl) <|
    xl_cons (xk_callV (Y := xm_y66) ho rfl (by decide) ⟨by decide, by decide⟩ xl_202 hc xd_82_180 rfl (b' := 2) rfl xm_nd66 (T := xm_T9) (N := 25) rfl xl_277 xl_278 xl_279) <|
    xl_cons (xk_iaload hc xd_82_183) <|
    xl_cons (xk_aload_n hc xd_82_184 rfl) <|
    xl_cons (xk_getfield (C := xm_C9) (T := xm_T9) (N := 25) hc xd_82_185 ho rfl (by decide) xm_u9 xl_196) <|
    xl_cons (xk_aload_n hc xd_82_188 rfl) <|
    xl_cons (xk_iload_n hc xd_82_189 rfl) <|
    xl_cons (xk_iload hc xd_82_190 rfl) <|
    xl_cons (xk_callV (Y := xm_y66) ho rfl (by decide) ⟨by decide, by decide⟩ xl_202 hc xd_82_192 rfl (b' := 2) rfl xm_nd66 (T := xm_T9) (N := 25) rfl xl_277 xl_278 xl_279) <|
    xl_cons (xk_iaload hc xd_82_195) <|
    xl_cons (xk_if_icmp hc xd_82_196 (by decide)) (xl_nil)
set_option maxRecDepth 100000 in
theorem xo_82_3 : ∀ e ∈ ([(199, 1, .iconst 1, 0, 0, .int 1, [], none),
  (200, 3, .goto 4, 204, 0, .null, [], none),
  (203, 1, .iconst 0, 0, 0, .int 0, [], none),
  (204, 1, .istore_n 3, 3, 0, .null, [], none),
  (205, 3, .iinc 4 1, 4, 0, .int 1, [], none),
  (208, 3, .goto (-51), 157, 0, .null, [], none),
  (211, 1, .iload_n 3, 3, 0, .null, [], none),
  (212, 1, .ireturn, 0, 0, .null, [], none)] : List xr_E), xr_sd xm_P 82 e := by
  have hc : xp_cd xm_P 82 = prog_12_method_53_code := rfl
  have ho : xp_own xm_P 82 = "ExchangeTextModel" := rfl
  have hm : xp_ml xm_P 82 = 5 := rfl
  exact xl_cons (xk_iconst hc xd_82_199 (by decide)) <|
    xl_cons (xk_goto hc xd_82_200 (by decide)) <|
    xl_cons (xk_iconst hc xd_82_203 (by decide)) <|
    xl_cons (xk_istore_n hc xd_82_204 hm rfl (by decide)) <|
    xl_cons (xk_iinc hc xd_82_205 hm rfl (by decide) (by decide)) <|
    xl_cons (xk_goto hc xd_82_208 (by decide)) <|
    xl_cons (xk_iload_n hc xd_82_211 rfl) <|
    xl_cons (xk_ireturn hc xd_82_212) (xl_nil)
theorem xo_82 : ∀ e ∈ xm_i82, xr_sd xm_P 82 e := xl_app xo_82_0 (xl_app xo_82_1 (xl_app xo_82_2 (xo_82_3)))
set_option maxRecDepth 100000 in
theorem xo_83_0 : ∀ e ∈ ([(0, 1, .aload_n 0, 0, 0, .null, [], none),
  (1, 3, .getfield 41, 9, 12, .null, [], none),
  (4, 1, .iload_n 1, 1, 0, .null, [], none),
  (5, 1, .iaload, 0, 0, .null, [], none),
  (6, 1, .aload_n 0, 0, 0, .null, [], none),
  (7, 3, .getfield 41, 9, 12, .null, [], none),
  (10, 1, .iload_n 2, 2, 0, .null, [], none),
  (11, 1, .iaload, 0, 0, .null, [], none),
  (12, 3, .if_icmp .ne 50, 62, 0, .null, [], none),
  (15, 1, .aload_n 0, 0, 0, .null, [], none),
  (16, 3, .getfield 47, 9, 14, .null, [], none),
  (19, 1, .iload_n 1, 1, 0, .null, [], none),
  (20, 1, .iaload, 0, 0, .null, [], none),
  (21, 1, .aload_n 0, 0, 0, .null, [], none),
  (22, 3, .getfield 47, 9, 14, .null, [], none),
  (25, 1, .iload_n 2, 2, 0, .null, [], none),
  (26, 1, .iaload, 0, 0, .null, [], none),
  (27, 3, .if_icmp .ne 35, 62, 0, .null, [], none),
  (30, 1, .aload_n 0, 0, 0, .null, [], none),
  (31, 3, .getfield 44, 9, 13, .null, [], none),
  (34, 2, .bipush 8, 0, 0, .int 8, [], none),
  (36, 1, .iload_n 1, 1, 0, .null, [], none),
  (37, 1, .imul, 0, 0, .null, [], none),
  (38, 1, .aload_n 0, 0, 0, .null, [], none),
  (39, 3, .getfield 44, 9, 13, .null, [], none),
  (42, 2, .bipush 8, 0, 0, .int 8, [], none),
  (44, 1, .iload_n 2, 2, 0, .null, [], none),
  (45, 1, .imul, 0, 0, .null, [], none),
  (46, 1, .aload_n 0, 0, 0, .null, [], none),
  (47, 3, .getfield 41, 9, 12, .null, [], none),
  (50, 1, .iload_n 1, 1, 0, .null, [], none),
  (51, 1, .iaload, 0, 0, .null, [], none),
  (52, 3, .invokestatic 117, 47, 5, .retAddr 2, [], none),
  (55, 3, .ifCond .eq 7, 62, 0, .null, [], none),
  (58, 1, .iconst 1, 0, 0, .int 1, [], none),
  (59, 3, .goto 4, 63, 0, .null, [], none),
  (62, 1, .iconst 0, 0, 0, .int 0, [], none),
  (63, 1, .istore_n 3, 3, 0, .null, [], none),
  (64, 1, .iconst 0, 0, 0, .int 0, [], none),
  (65, 2, .istore 4, 4, 0, .null, [], none)] : List xr_E), xr_sd xm_P 83 e := by
  have hc : xp_cd xm_P 83 = prog_12_method_54_code := rfl
  have ho : xp_own xm_P 83 = "ExchangeTextModel" := rfl
  have hm : xp_ml xm_P 83 = 5 := rfl
  exact xl_cons (xk_aload_n hc xd_83_0 rfl) <|
    xl_cons (xk_getfield (C := xm_C9) (T := xm_T9) (N := 25) hc xd_83_1 ho rfl (by decide) xm_u9 xl_189) <|
    xl_cons (xk_iload_n hc xd_83_4 rfl) <|
    xl_cons (xk_iaload hc xd_83_5) <|
    xl_cons (xk_aload_n hc xd_83_6 rfl) <|
    xl_cons (xk_getfield (C := xm_C9) (T := xm_T9) (N := 25) hc xd_83_7 ho rfl (by decide) xm_u9 xl_189) <|
    xl_cons (xk_iload_n hc xd_83_10 rfl) <|
    xl_cons (xk_iaload hc xd_83_11) <|
    xl_cons (xk_if_icmp hc xd_83_12 (by decide)) <|
    xl_cons (xk_aload_n hc xd_83_15 rfl) <|
    xl_cons (xk_getfield (C := xm_C9) (T := xm_T9) (N := 25) hc xd_83_16 ho rfl (by decide) xm_u9 xl_191) <|
    xl_cons (xk_iload_n hc xd_83_19 rfl) <|
    xl_cons (xk_iaload hc xd_83_20) <|
    xl_cons (xk_aload_n hc xd_83_21 rfl) <|
    xl_cons (xk_getfield (C := xm_C9) (T := xm_T9) (N := 25) hc xd_83_22 ho rfl (by decide) xm_u9 xl_191) <|
    xl_cons (xk_iload_n hc xd_83_25 rfl) <|
    xl_cons (xk_iaload hc xd_83_26) <|
    xl_cons (xk_if_icmp hc xd_83_27 (by decide)) <|
    xl_cons (xk_aload_n hc xd_83_30 rfl) <|
    xl_cons (xk_getfield (C := xm_C9) (T := xm_T9) (N := 25) hc xd_83_31 ho rfl (by decide) xm_u9 xl_190) <|
    xl_cons (xk_bipush hc xd_83_34 (by decide)) <|
    xl_cons (xk_iload_n hc xd_83_36 rfl) <|
    xl_cons (xk_imul hc xd_83_37) <|
    xl_cons (xk_aload_n hc xd_83_38 rfl) <|
    xl_cons (xk_getfield (C := xm_C9) (T := xm_T9) (N := 25) hc xd_83_39 ho rfl (by decide) xm_u9 xl_190) <|
    xl_cons (xk_bipush hc xd_83_42 (by decide)) <|
    xl_cons (xk_iload_n hc xd_83_44 rfl) <|
    xl_cons (xk_imul hc xd_83_45) <|
    xl_cons (xk_aload_n hc xd_83_46 rfl) <|
    xl_cons (xk_getfield (C := xm_C9) (T := xm_T9) (N := 25) hc xd_83_47 ho rfl (by decide) xm_u9 xl_189) <|
    xl_cons (xk_iload_n hc xd_83_50 rfl) <|
    xl_cons (xk_iaload hc xd_83_51) <|
    xl_cons (xk_callS (Y := xm_y47) ho rfl (by decide) ⟨by decide, by decide⟩ xl_202 hc xd_83_52 rfl xm_nd47 xl_228 xl_229) <|
    xl_cons (xk_ifCond hc xd_83_55 (by decide)) <|
    xl_cons (xk_iconst hc xd_83_58 (by decide)) <|
    xl_cons (xk_goto hc xd_83_59 (by decide)) <|
    xl_cons (xk_iconst hc xd_83_62 (by decide)) <|
    xl_cons (xk_istore_n hc xd_83_63 hm rfl (by decide)) <|
    xl_cons (xk_iconst hc xd_83_64 (by decide)) <|
    xl_cons (xk_istore hc xd_83_65 hm rfl (by decide)) (xl_nil)
set_option maxRecDepth 100000 in
theorem xo_83_1 : ∀ e ∈ ([(67, 2, .iload 4, 4, 0, .null, [], none),
  (69, 1, .aload_n 0, 0, 0, .null, [], none),
  (70, 3, .getfield 47, 9, 14, .null, [], none),
  (73, 1, .iload_n 1, 1, 0, .null, [], none),
  (74, 1, .iaload, 0, 0, .null, [], none),
  (75, 3, .if_icmp .ge 32, 107, 0, .null, [], none),
  (78, 1, .iload_n 3, 3, 0, .null, [], none),
  (79, 3, .ifCond .eq 28, 107, 0, .null, [], none),
  (82, 1, .aload_n 0, 0, 0, .null, [], none),
  (83, 2, .bipush 8, 0, 0, .int 8, [], none),
  (85, 1, .iload_n 1, 1, 0, .null, [], none),
  (86, 1, .imul, 0, 0, .null, [], none),
  (87, 2, .iload 4, 4, 0, .null, [], none),
  (89, 1, .iadd, 0, 0, .null, [], none),
  (90, 2, .bipush 8, 0, 0, .int 8, [], none),
  (92, 1, .iload_n 2, 2, 0, .null, [], none),
  (93, 1, .imul, 0, 0, .null, [], none),
  (94, 2, .iload 4, 4, 0, .null, [], none),
  (96, 1, .iadd, 0, 0, .null, [], none),
  (97, 3, .invokevirtual 205, 82, 3, .retAddr 0, [], none),
  (100, 1, .istore_n 3, 3, 0, .null, [], none),
  (101, 3, .iinc 4 1, 4, 0, .int 1, [], none),
  (104, 3, .goto (-37), 67, 0, .null, [], none),
  (107, 1, .iload_n 3, 3, 0, .null, [], none),
  (108, 1, .ireturn, 0, 0, .null, [], none)] : List xr_E), xr_sd xm_P 83 e := by
  have hc : xp_cd xm_P 83 = prog_12_method_54_code := rfl
  have ho : xp_own xm_P 83 = "ExchangeTextModel" := rfl
  have hm : xp_ml xm_P 83 = 5 := rfl
  exact xl_cons (xk_iload hc xd_83_67 rfl) <|
    xl_cons (xk_aload_n hc xd_83_69 rfl) <|
    xl_cons (xk_getfield (C := xm_C9) (T := xm_T9) (N := 25) hc xd_83_70 ho rfl (by decide) xm_u9 xl_191) <|
    xl_cons (xk_iload_n hc xd_83_73 rfl) <|
    xl_cons (xk_iaload hc xd_83_74) <|
    xl_cons (xk_if_icmp hc xd_83_75 (by decide)) <|
    xl_cons (xk_iload_n hc xd_83_78 rfl) <|
    xl_cons (xk_ifCond hc xd_83_79 (by decide)) <|
    xl_cons (xk_aload_n hc xd_83_82 rfl) <|
    xl_cons (xk_bipush hc xd_83_83 (by decide)) <|
    xl_cons (xk_iload_n hc xd_83_85 rfl) <|
    xl_cons (xk_imul hc xd_83_86) <|
    xl_cons (xk_iload hc xd_83_87 rfl) <|
    xl_cons (xk_iadd hc xd_83_89) <|
    xl_cons (xk_bipush hc xd_83_90 (by decide)) <|
    xl_cons (xk_iload_n hc xd_83_92 rfl) <|
    xl_cons (xk_imul hc xd_83_93) <|
    xl_cons (xk_iload hc xd_83_94 rfl) <|
    xl_cons (xk_iadd hc xd_83_96) <|
    xl_cons (xk_callV (Y := xm_y82) ho rfl (by decide) ⟨by decide, by decide⟩ xl_202 hc xd_83_97 rfl (b' := 2) rfl xm_nd82 (T := xm_T9) (N := 25) rfl xl_307 xl_308 xl_309) <|
    xl_cons (xk_istore_n hc xd_83_100 hm rfl (by decide)) <|
    xl_cons (xk_iinc hc xd_83_101 hm rfl (by decide) (by decide)) <|
    xl_cons (xk_goto hc xd_83_104 (by decide)) <|
    xl_cons (xk_iload_n hc xd_83_107 rfl) <|
    xl_cons (xk_ireturn hc xd_83_108) (xl_nil)
theorem xo_83 : ∀ e ∈ xm_i83, xr_sd xm_P 83 e := xl_app xo_83_0 (xo_83_1)
set_option maxRecDepth 100000 in
theorem xo_84_0 : ∀ e ∈ ([(0, 1, .aload_n 0, 0, 0, .null, [], none),
  (1, 3, .invokevirtual 180, 69, 1, .retAddr 0, [], none),
  (4, 1, .iconst 0, 0, 0, .int 0, [], none),
  (5, 1, .istore_n 1, 1, 0, .null, [], none),
  (6, 1, .iload_n 1, 1, 0, .null, [], none),
  (7, 2, .bipush 40, 0, 0, .int 40, [], none),
  (9, 3, .if_icmp .ge 16, 25, 0, .null, [], none),
  (12, 1, .aload_n 0, 0, 0, .null, [], none),
  (13, 3, .getfield 62, 9, 22, .null, [], none),
  (16, 1, .iload_n 1, 1, 0, .null, [], none),
  (17, 1, .iload_n 1, 1, 0, .null, [], none),
  (18, 1, .iastore, 0, 0, .null, [], none),
  (19, 3, .iinc 1 1, 1, 0, .int 1, [], none),
  (22, 3, .goto (-16), 6, 0, .null, [], none),
  (25, 1, .iconst 0, 0, 0, .int 0, [], none),
  (26, 1, .istore_n 1, 1, 0, .null, [], none),
  (27, 1, .iload_n 1, 1, 0, .null, [], none),
  (28, 2, .bipush 40, 0, 0, .int 40, [], none),
  (30, 3, .if_icmp .ge 94, 124, 0, .null, [], none),
  (33, 1, .iconst 0, 0, 0, .int 0, [], none),
  (34, 1, .istore_n 2, 2, 0, .null, [], none),
  (35, 1, .iload_n 2, 2, 0, .null, [], none),
  (36, 1, .aload_n 0, 0, 0, .null, [], none),
  (37, 3, .getfield 35, 9, 10, .null, [], none),
  (40, 1, .iconst 0, 0, 0, .int 0, [], none),
  (41, 1, .iaload, 0, 0, .null, [], none),
  (42, 3, .if_icmp .ge 76, 118, 0, .null, [], none),
  (45, 1, .aload_n 0, 0, 0, .null, [], none),
  (46, 3, .getfield 59, 9, 21, .null, [], none),
  (49, 1, .iload_n 2, 2, 0, .null, [], none),
  (50, 1, .iaload, 0, 0, .null, [], none),
  (51, 1, .iload_n 1, 1, 0, .null, [], none),
  (52, 3, .if_icmp .eq 6, 58, 0, .null, [], none),
  (55, 3, .goto 57, 112, 0, .null, [], none),
  (58, 1, .iconst 0, 0, 0, .int 0, [], none),
  (59, 1, .istore_n 3, 3, 0, .null, [], none),
  (60, 1, .iload_n 3, 3, 0, .null, [], none),
  (61, 1, .iload_n 2, 2, 0, .null, [], none),
  (62, 3, .if_icmp .ge 50, 112, 0, .null, [], none),
  (65, 1, .aload_n 0, 0, 0, .null, [], none)] : List xr_E), xr_sd xm_P 84 e := by
  have hc : xp_cd xm_P 84 = prog_12_method_55_code := rfl
  have ho : xp_own xm_P 84 = "ExchangeTextModel" := rfl
  have hm : xp_ml xm_P 84 = 4 := rfl
  exact xl_cons (xk_aload_n hc xd_84_0 rfl) <|
    xl_cons (xk_callV (Y := xm_y69) ho rfl (by decide) ⟨by decide, by decide⟩ xl_202 hc xd_84_1 rfl (b' := 0) rfl xm_nd69 (T := xm_T9) (N := 25) rfl xl_283 xl_284 xl_285) <|
    xl_cons (xk_iconst hc xd_84_4 (by decide)) <|
    xl_cons (xk_istore_n hc xd_84_5 hm rfl (by decide)) <|
    xl_cons (xk_iload_n hc xd_84_6 rfl) <|
    xl_cons (xk_bipush hc xd_84_7 (by decide)) <|
    xl_cons (xk_if_icmp hc xd_84_9 (by decide)) <|
    xl_cons (xk_aload_n hc xd_84_12 rfl) <|
    xl_cons (xk_getfield (C := xm_C9) (T := xm_T9) (N := 25) hc xd_84_13 ho rfl (by decide) xm_u9 xl_196) <|
    xl_cons (xk_iload_n hc xd_84_16 rfl) <|
    xl_cons (xk_iload_n hc xd_84_17 rfl) <|
    xl_cons (xk_iastore hc xd_84_18) <|
    xl_cons (xk_iinc hc xd_84_19 hm rfl (by decide) (by decide)) <|
    xl_cons (xk_goto hc xd_84_22 (by decide)) <|
    xl_cons (xk_iconst hc xd_84_25 (by decide)) <|
    xl_cons (xk_istore_n hc xd_84_26 hm rfl (by decide)) <|
    xl_cons (xk_iload_n hc xd_84_27 rfl) <|
    xl_cons (xk_bipush hc xd_84_28 (by decide)) <|
    xl_cons (xk_if_icmp hc xd_84_30 (by decide)) <|
    xl_cons (xk_iconst hc xd_84_33 (by decide)) <|
    xl_cons (xk_istore_n hc xd_84_34 hm rfl (by decide)) <|
    xl_cons (xk_iload_n hc xd_84_35 rfl) <|
    xl_cons (xk_aload_n hc xd_84_36 rfl) <|
    xl_cons (xk_getfield (C := xm_C9) (T := xm_T9) (N := 25) hc xd_84_37 ho rfl (by decide) xm_u9 xl_187) <|
    xl_cons (xk_iconst hc xd_84_40 (by decide)) <|
    xl_cons (xk_iaload hc xd_84_41) <|
    xl_cons (xk_if_icmp hc xd_84_42 (by decide)) <|
    xl_cons (xk_aload_n hc xd_84_45 rfl) <|
    xl_cons (xk_getfield (C := xm_C9) (T := xm_T9) (N := 25) hc xd_84_46 ho rfl (by decide) xm_u9 xl_195) <|
    xl_cons (xk_iload_n hc xd_84_49 rfl) <|
    xl_cons (xk_iaload hc xd_84_50) <|
    xl_cons (xk_iload_n hc xd_84_51 rfl) <|
    xl_cons (xk_if_icmp hc xd_84_52 (by decide)) <|
    xl_cons (xk_goto hc xd_84_55 (by decide)) <|
    xl_cons (xk_iconst hc xd_84_58 (by decide)) <|
    xl_cons (xk_istore_n hc xd_84_59 hm rfl (by decide)) <|
    xl_cons (xk_iload_n hc xd_84_60 rfl) <|
    xl_cons (xk_iload_n hc xd_84_61 rfl) <|
    xl_cons (xk_if_icmp hc xd_84_62 (by decide)) <|
    xl_cons (xk_aload_n hc xd_84_65 rfl) (xl_nil)
set_option maxRecDepth 100000 in
theorem xo_84_1 : ∀ e ∈ ([(66, 3, .getfield 62, 9, 22, .null, [], none),
  (69, 1, .iload_n 2, 2, 0, .null, [], none),
  (70, 1, .iaload, 0, 0, .null, [], none),
  (71, 1, .iload_n 2, 2, 0, .null, [], none),
  (72, 3, .if_icmp .ne 40, 112, 0, .null, [], none),
  (75, 1, .aload_n 0, 0, 0, .null, [], none),
  (76, 3, .getfield 59, 9, 21, .null, [], none),
  (79, 1, .iload_n 3, 3, 0, .null, [], none),
  (80, 1, .iaload, 0, 0, .null, [], none),
  (81, 1, .iload_n 1, 1, 0, .null, [], none),
  (82, 3, .if_icmp .ne 24, 106, 0, .null, [], none),
  (85, 1, .aload_n 0, 0, 0, .null, [], none),
  (86, 1, .iload_n 2, 2, 0, .null, [], none),
  (87, 1, .iload_n 3, 3, 0, .null, [], none),
  (88, 3, .invokevirtual 209, 83, 3, .retAddr 0, [], none),
  (91, 3, .ifCond .eq 15, 106, 0, .null, [], none),
  (94, 1, .aload_n 0, 0, 0, .null, [], none),
  (95, 3, .getfield 62, 9, 22, .null, [], none),
  (98, 1, .iload_n 2, 2, 0, .null, [], none),
  (99, 1, .aload_n 0, 0, 0, .null, [], none),
  (100, 3, .getfield 62, 9, 22, .null, [], none),
  (103, 1, .iload_n 3, 3, 0, .null, [], none),
  (104, 1, .iaload, 0, 0, .null, [], none),
  (105, 1, .iastore, 0, 0, .null, [], none),
  (106, 3, .iinc 3 1, 3, 0, .int 1, [], none),
  (109, 3, .goto (-49), 60, 0, .null, [], none),
  (112, 3, .iinc 2 1, 2, 0, .int 1, [], none),
  (115, 3, .goto (-80), 35, 0, .null, [], none),
  (118, 3, .iinc 1 1, 1, 0, .int 1, [], none),
  (121, 3, .goto (-94), 27, 0, .null, [], none),
  (124, 1, .return_, 0, 0, .null, [], none)] : List xr_E), xr_sd xm_P 84 e := by
  have hc : xp_cd xm_P 84 = prog_12_method_55_code := rfl
  have ho : xp_own xm_P 84 = "ExchangeTextModel" := rfl
  have hm : xp_ml xm_P 84 = 4 := rfl
  exact xl_cons (xk_getfield (C := xm_C9) (T := xm_T9) (N := 25) hc xd_84_66 ho rfl (by decide) xm_u9 xl_196) <|
    xl_cons (xk_iload_n hc xd_84_69 rfl) <|
    xl_cons (xk_iaload hc xd_84_70) <|
    xl_cons (xk_iload_n hc xd_84_71 rfl) <|
    xl_cons (xk_if_icmp hc xd_84_72 (by decide)) <|
    xl_cons (xk_aload_n hc xd_84_75 rfl) <|
    xl_cons (xk_getfield (C := xm_C9) (T := xm_T9) (N := 25) hc xd_84_76 ho rfl (by decide) xm_u9 xl_195) <|
    xl_cons (xk_iload_n hc xd_84_79 rfl) <|
    xl_cons (xk_iaload hc xd_84_80) <|
    xl_cons (xk_iload_n hc xd_84_81 rfl) <|
    xl_cons (xk_if_icmp hc xd_84_82 (by decide)) <|
    xl_cons (xk_aload_n hc xd_84_85 rfl) <|
    xl_cons (xk_iload_n hc xd_84_86 rfl) <|
    xl_cons (xk_iload_n hc xd_84_87 rfl) <|
    xl_cons (xk_callV (Y := xm_y83) ho rfl (by decide) ⟨by decide, by decide⟩ xl_202 hc xd_84_88 rfl (b' := 2) rfl xm_nd83 (T := xm_T9) (N := 25) rfl xl_310 xl_311 xl_312) <|
    xl_cons (xk_ifCond hc xd_84_91 (by decide)) <|
    xl_cons (xk_aload_n hc xd_84_94 rfl) <|
    xl_cons (xk_getfield (C := xm_C9) (T := xm_T9) (N := 25) hc xd_84_95 ho rfl (by decide) xm_u9 xl_196) <|
    xl_cons (xk_iload_n hc xd_84_98 rfl) <|
    xl_cons (xk_aload_n hc xd_84_99 rfl) <|
    xl_cons (xk_getfield (C := xm_C9) (T := xm_T9) (N := 25) hc xd_84_100 ho rfl (by decide) xm_u9 xl_196) <|
    xl_cons (xk_iload_n hc xd_84_103 rfl) <|
    xl_cons (xk_iaload hc xd_84_104) <|
    xl_cons (xk_iastore hc xd_84_105) <|
    xl_cons (xk_iinc hc xd_84_106 hm rfl (by decide) (by decide)) <|
    xl_cons (xk_goto hc xd_84_109 (by decide)) <|
    xl_cons (xk_iinc hc xd_84_112 hm rfl (by decide) (by decide)) <|
    xl_cons (xk_goto hc xd_84_115 (by decide)) <|
    xl_cons (xk_iinc hc xd_84_118 hm rfl (by decide) (by decide)) <|
    xl_cons (xk_goto hc xd_84_121 (by decide)) <|
    xl_cons (xk_return_ hc xd_84_124) (xl_nil)
theorem xo_84 : ∀ e ∈ xm_i84, xr_sd xm_P 84 e := xl_app xo_84_0 (xo_84_1)
set_option maxRecDepth 100000 in
theorem xo_85_0 : ∀ e ∈ ([(0, 1, .aload_n 0, 0, 0, .null, [], none),
  (1, 1, .iconst 0, 0, 0, .int 0, [], none),
  (2, 3, .putfield 69, 9, 0, .null, [], none),
  (5, 1, .aload_n 0, 0, 0, .null, [], none),
  (6, 1, .iconst 0, 0, 0, .int 0, [], none),
  (7, 1, .iload_n 1, 1, 0, .null, [], none),
  (8, 3, .invokevirtual 143, 50, 3, .retAddr 0, [], none),
  (11, 1, .istore_n 3, 3, 0, .null, [], none),
  (12, 1, .aload_n 0, 0, 0, .null, [], none),
  (13, 1, .iconst 0, 0, 0, .int 0, [], none),
  (14, 1, .iload_n 2, 2, 0, .null, [], none),
  (15, 3, .invokevirtual 143, 50, 3, .retAddr 0, [], none),
  (18, 2, .istore 4, 4, 0, .null, [], none),
  (20, 1, .aload_n 0, 0, 0, .null, [], none),
  (21, 1, .iload_n 3, 3, 0, .null, [], none),
  (22, 1, .iconst (-1), 0, 0, .int (-1), [], none),
  (23, 3, .if_icmp .eq 9, 32, 0, .null, [], none),
  (26, 2, .iload 4, 4, 0, .null, [], none),
  (28, 1, .iconst (-1), 0, 0, .int (-1), [], none),
  (29, 3, .if_icmp .ne 7, 36, 0, .null, [], none),
  (32, 1, .iconst 1, 0, 0, .int 1, [], none),
  (33, 3, .goto 4, 37, 0, .null, [], none),
  (36, 1, .iconst 0, 0, 0, .int 0, [], none),
  (37, 1, .iconst 1, 0, 0, .int 1, [], none),
  (38, 3, .invokevirtual 75, 32, 3, .retAddr 0, [], none),
  (41, 3, .ifCond .eq 5, 46, 0, .null, [], none),
  (44, 1, .iconst 0, 0, 0, .int 0, [], none),
  (45, 1, .ireturn, 0, 0, .null, [], none),
  (46, 1, .aload_n 0, 0, 0, .null, [], none),
  (47, 3, .invokevirtual 212, 84, 1, .retAddr 0, [], none),
  (50, 1, .aload_n 0, 0, 0, .null, [], none),
  (51, 3, .getfield 62, 9, 22, .null, [], none),
  (54, 1, .iload_n 3, 3, 0, .null, [], none),
  (55, 1, .iaload, 0, 0, .null, [], none),
  (56, 1, .aload_n 0, 0, 0, .null, [], none),
  (57, 3, .getfield 62, 9, 22, .null, [], none),
  (60, 2, .iload 4, 4, 0, .null, [], none),
  (62, 1, .iaload, 0, 0, .null, [], none),
  (63, 3, .if_icmp .ne 7, 70, 0, .null, [], none),
  (66, 1, .iconst 1, 0, 0, .int 1, [], none)] : List xr_E), xr_sd xm_P 85 e := by
  have hc : xp_cd xm_P 85 = prog_12_method_56_code := rfl
  have ho : xp_own xm_P 85 = "ExchangeTextModel" := rfl
  have hm : xp_ml xm_P 85 = 5 := rfl
  exact xl_cons (xk_aload_n hc xd_85_0 rfl) <|
    xl_cons (xk_iconst hc xd_85_1 (by decide)) <|
    xl_cons (xk_putfield (C := xm_C9) (T := xm_T9) (N := 25) (ty := xm_ty9) hc xd_85_2 ho rfl (by decide) xm_u9 xm_tk9 rfl xm_nm9 xl_199 rfl) <|
    xl_cons (xk_aload_n hc xd_85_5 rfl) <|
    xl_cons (xk_iconst hc xd_85_6 (by decide)) <|
    xl_cons (xk_iload_n hc xd_85_7 rfl) <|
    xl_cons (xk_callV (Y := xm_y50) ho rfl (by decide) ⟨by decide, by decide⟩ xl_202 hc xd_85_8 rfl (b' := 2) rfl xm_nd50 (T := xm_T9) (N := 25) rfl xl_249 xl_250 xl_251) <|
    xl_cons (xk_istore_n hc xd_85_11 hm rfl (by decide)) <|
    xl_cons (xk_aload_n hc xd_85_12 rfl) <|
    xl_cons (xk_iconst hc xd_85_13 (by decide)) <|
    xl_cons (xk_iload_n hc xd_85_14 rfl) <|
    xl_cons (xk_callV (Y := xm_y50) ho rfl (by decide) ⟨by decide, by decide⟩ xl_202 hc xd_85_15 rfl (b' := 2) rfl xm_nd50 (T := xm_T9) (N := 25) rfl xl_249 xl_250 xl_251) <|
    xl_cons (xk_istore hc xd_85_18 hm rfl (by decide)) <|
    xl_cons (xk_aload_n hc xd_85_20 rfl) <|
    xl_cons (xk_iload_n hc xd_85_21 rfl) <|
    xl_cons (xk_iconst hc xd_85_22 (by decide)) <|
    xl_cons (xk_if_icmp hc xd_85_23 (by decide)) <|
    xl_cons (xk_iload hc xd_85_26 rfl) <|
    xl_cons (xk_iconst hc xd_85_28 (by decide)) <|
    xl_cons (xk_if_icmp hc xd_85_29 (by decide)) <|
    xl_cons (xk_iconst hc xd_85_32 (by decide)) <|
    xl_cons (xk_goto hc xd_85_33 (by decide)) <|
    xl_cons (xk_iconst hc xd_85_36 (by decide)) <|
    xl_cons (xk_iconst hc xd_85_37 (by decide)) <|
    xl_cons (xk_callV (Y := xm_y32) ho rfl (by decide) ⟨by decide, by decide⟩ xl_202 hc xd_85_38 rfl (b' := 2) rfl xm_nd32 (T := xm_T9) (N := 25) rfl xl_201 xl_203 xl_204) <|
    xl_cons (xk_ifCond hc xd_85_41 (by decide)) <|
    xl_cons (xk_iconst hc xd_85_44 (by decide)) <|
    xl_cons (xk_ireturn hc xd_85_45) <|
    xl_cons (xk_aload_n hc xd_85_46 rfl) <|
    xl_cons (xk_callV (Y := xm_y84) ho rfl (by decide) ⟨by decide, by decide⟩ xl_202 hc xd_85_47 rfl (b' := 0) rfl xm_nd84 (T := xm_T9) (N := 25) rfl xl_313 xl_314 xl_315) <|
    xl_cons (xk_aload_n hc xd_85_50 rfl) <|
    xl_cons (xk_getfield (C := xm_C9) (T := xm_T9) (N := 25) hc xd_85_51 ho rfl (by decide) xm_u9 xl_196) <|
    xl_cons (xk_iload_n hc xd_85_54 rfl) <|
    xl_cons (xk_iaload hc xd_85_55) <|
    xl_cons (xk_aload_n hc xd_85_56 rfl) <|
    xl_cons (xk_getfield (C := xm_C9) (T := xm_T9) (N := 25) hc xd_85_57 ho rfl (by decide) xm_u9 xl_196) <|
    xl_cons (xk_iload hc xd_85_60 rfl) <|
    xl_cons (xk_iaload hc xd_85_62) <|
    xl_cons (xk_if_icmp hc xd_85_63 (by decide)) <|
    xl_cons (xk_iconst hc xd_85_66 (by decide)) (xl_nil)
set_option maxRecDepth 100000 in
theorem xo_85_1 : ∀ e ∈ ([(67, 3, .goto 4, 71, 0, .null, [], none),
  (70, 1, .iconst 0, 0, 0, .int 0, [], none),
  (71, 1, .ireturn, 0, 0, .null, [], none)] : List xr_E), xr_sd xm_P 85 e := by
  have hc : xp_cd xm_P 85 = prog_12_method_56_code := rfl
  have ho : xp_own xm_P 85 = "ExchangeTextModel" := rfl
  have hm : xp_ml xm_P 85 = 5 := rfl
  exact xl_cons (xk_goto hc xd_85_67 (by decide)) <|
    xl_cons (xk_iconst hc xd_85_70 (by decide)) <|
    xl_cons (xk_ireturn hc xd_85_71) (xl_nil)
theorem xo_85 : ∀ e ∈ xm_i85, xr_sd xm_P 85 e := xl_app xo_85_0 (xo_85_1)
set_option maxRecDepth 100000 in
theorem xo_86_0 : ∀ e ∈ ([(0, 1, .aload_n 0, 0, 0, .null, [], none),
  (1, 1, .iconst 0, 0, 0, .int 0, [], none),
  (2, 3, .putfield 69, 9, 0, .null, [], none),
  (5, 1, .aload_n 0, 0, 0, .null, [], none),
  (6, 3, .invokevirtual 212, 84, 1, .retAddr 0, [], none),
  (9, 1, .iconst 0, 0, 0, .int 0, [], none),
  (10, 1, .istore_n 1, 1, 0, .null, [], none),
  (11, 1, .iload_n 1, 1, 0, .null, [], none),
  (12, 1, .aload_n 0, 0, 0, .null, [], none),
  (13, 3, .getfield 35, 9, 10, .null, [], none),
  (16, 1, .iconst 0, 0, 0, .int 0, [], none),
  (17, 1, .iaload, 0, 0, .null, [], none),
  (18, 3, .if_icmp .ge 122, 140, 0, .null, [], none),
  (21, 2, .bipush 8, 0, 0, .int 8, [], none),
  (23, 1, .iload_n 1, 1, 0, .null, [], none),
  (24, 1, .imul, 0, 0, .null, [], none),
  (25, 1, .istore_n 2, 2, 0, .null, [], none),
  (26, 1, .iload_n 2, 2, 0, .null, [], none),
  (27, 2, .bipush 8, 0, 0, .int 8, [], none),
  (29, 1, .iload_n 1, 1, 0, .null, [], none),
  (30, 1, .imul, 0, 0, .null, [], none),
  (31, 1, .aload_n 0, 0, 0, .null, [], none),
  (32, 3, .getfield 47, 9, 14, .null, [], none),
  (35, 1, .iload_n 1, 1, 0, .null, [], none),
  (36, 1, .iaload, 0, 0, .null, [], none),
  (37, 1, .iadd, 0, 0, .null, [], none),
  (38, 3, .if_icmp .ge 96, 134, 0, .null, [], none),
  (41, 1, .aload_n 0, 0, 0, .null, [], none),
  (42, 3, .getfield 50, 9, 15, .null, [], none),
  (45, 1, .iload_n 2, 2, 0, .null, [], none),
  (46, 1, .iaload, 0, 0, .null, [], none),
  (47, 1, .iconst 2, 0, 0, .int 2, [], none),
  (48, 3, .if_icmp .ne 25, 73, 0, .null, [], none),
  (51, 1, .aload_n 0, 0, 0, .null, [], none),
  (52, 3, .getfield 53, 9, 16, .null, [], none),
  (55, 1, .iload_n 2, 2, 0, .null, [], none),
  (56, 1, .aload_n 0, 0, 0, .null, [], none),
  (57, 3, .getfield 38, 9, 11, .null, [], none),
  (60, 1, .aload_n 0, 0, 0, .null, [], none),
  (61, 3, .getfield 62, 9, 22, .null, [], none)] : List xr_E), xr_sd xm_P 86 e := by
  have hc : xp_cd xm_P 86 = prog_12_method_57_code := rfl
  have ho : xp_own xm_P 86 = "ExchangeTextModel" := rfl
  have hm : xp_ml xm_P 86 = 4 := rfl
  exact xl_cons (xk_aload_n hc xd_86_0 rfl) <|
    xl_cons (xk_iconst hc xd_86_1 (by decide)) <|
    xl_cons (xk_putfield (C := xm_C9) (T := xm_T9) (N := 25) (ty := xm_ty9) hc xd_86_2 ho rfl (by decide) xm_u9 xm_tk9 rfl xm_nm9 xl_199 rfl) <|
    xl_cons (xk_aload_n hc xd_86_5 rfl) <|
    xl_cons (xk_callV (Y := xm_y84) ho rfl (by decide) ⟨by decide, by decide⟩ xl_202 hc xd_86_6 rfl (b' := 0) rfl xm_nd84 (T := xm_T9) (N := 25) rfl xl_313 xl_314 xl_315) <|
    xl_cons (xk_iconst hc xd_86_9 (by decide)) <|
    xl_cons (xk_istore_n hc xd_86_10 hm rfl (by decide)) <|
    xl_cons (xk_iload_n hc xd_86_11 rfl) <|
    xl_cons (xk_aload_n hc xd_86_12 rfl) <|
    xl_cons (xk_getfield (C := xm_C9) (T := xm_T9) (N := 25) hc xd_86_13 ho rfl (by decide) xm_u9 xl_187) <|
    xl_cons (xk_iconst hc xd_86_16 (by decide)) <|
    xl_cons (xk_iaload hc xd_86_17) <|
    xl_cons (xk_if_icmp hc xd_86_18 (by decide)) <|
    xl_cons (xk_bipush hc xd_86_21 (by decide)) <|
    xl_cons (xk_iload_n hc xd_86_23 rfl) <|
    xl_cons (xk_imul hc xd_86_24) <|
    xl_cons (xk_istore_n hc xd_86_25 hm rfl (by decide)) <|
    xl_cons (xk_iload_n hc xd_86_26 rfl) <|
    xl_cons (xk_bipush hc xd_86_27 (by decide)) <|
    xl_cons (xk_iload_n hc xd_86_29 rfl) <|
    xl_cons (xk_imul hc xd_86_30) <|
    xl_cons (xk_aload_n hc xd_86_31 rfl) <|
    xl_cons (xk_getfield (C := xm_C9) (T := xm_T9) (N := 25) hc xd_86_32 ho rfl (by decide) xm_u9 xl_191) <|
    xl_cons (xk_iload_n hc xd_86_35 rfl) <|
    xl_cons (xk_iaload hc xd_86_36) <|
    xl_cons (xk_iadd hc xd_86_37) <|
    xl_cons (xk_if_icmp hc xd_86_38 (by decide)) <|
    xl_cons (xk_aload_n hc xd_86_41 rfl) <|
    xl_cons (xk_getfield (C := xm_C9) (T := xm_T9) (N := 25) hc xd_86_42 ho rfl (by decide) xm_u9 xl_192) <|
    xl_cons (xk_iload_n hc xd_86_45 rfl) <|
    xl_cons (xk_iaload hc xd_86_46) <|
    xl_cons (xk_iconst hc xd_86_47 (by decide)) <|
    xl_cons (xk_if_icmp hc xd_86_48 (by decide)) <|
    xl_cons (xk_aload_n hc xd_86_51 rfl) <|
    xl_cons (xk_getfield (C := xm_C9) (T := xm_T9) (N := 25) hc xd_86_52 ho rfl (by decide) xm_u9 xl_193) <|
    xl_cons (xk_iload_n hc xd_86_55 rfl) <|
    xl_cons (xk_aload_n hc xd_86_56 rfl) <|
    xl_cons (xk_getfield (C := xm_C9) (T := xm_T9) (N := 25) hc xd_86_57 ho rfl (by decide) xm_u9 xl_188) <|
    xl_cons (xk_aload_n hc xd_86_60 rfl) <|
    xl_cons (xk_getfield (C := xm_C9) (T := xm_T9) (N := 25) hc xd_86_61 ho rfl (by decide) xm_u9 xl_196) (xl_nil)
set_option maxRecDepth 100000 in
theorem xo_86_1 : ∀ e ∈ ([(64, 1, .aload_n 0, 0, 0, .null, [], none),
  (65, 1, .iload_n 2, 2, 0, .null, [], none),
  (66, 1, .iconst 0, 0, 0, .int 0, [], none),
  (67, 3, .invokevirtual 174, 66, 3, .retAddr 0, [], none),
  (70, 1, .iaload, 0, 0, .null, [], none),
  (71, 1, .iaload, 0, 0, .null, [], none),
  (72, 1, .iastore, 0, 0, .null, [], none),
  (73, 1, .iconst 0, 0, 0, .int 0, [], none),
  (74, 1, .istore_n 3, 3, 0, .null, [], none),
  (75, 1, .iload_n 3, 3, 0, .null, [], none),
  (76, 1, .aload_n 0, 0, 0, .null, [], none),
  (77, 3, .getfield 53, 9, 16, .null, [], none),
  (80, 1, .iload_n 2, 2, 0, .null, [], none),
  (81, 1, .iaload, 0, 0, .null, [], none),
  (82, 3, .if_icmp .ge 46, 128, 0, .null, [], none),
  (85, 1, .aload_n 0, 0, 0, .null, [], none),
  (86, 3, .getfield 50, 9, 15, .null, [], none),
  (89, 1, .iload_n 2, 2, 0, .null, [], none),
  (90, 1, .iaload, 0, 0, .null, [], none),
  (91, 1, .iconst 4, 0, 0, .int 4, [], none),
  (92, 3, .if_icmp .ne 36, 128, 0, .null, [], none),
  (95, 1, .aload_n 0, 0, 0, .null, [], none),
  (96, 3, .getfield 56, 9, 17, .null, [], none),
  (99, 2, .bipush 20, 0, 0, .int 20, [], none),
  (101, 1, .iload_n 2, 2, 0, .null, [], none),
  (102, 1, .imul, 0, 0, .null, [], none),
  (103, 1, .iload_n 3, 3, 0, .null, [], none),
  (104, 1, .iadd, 0, 0, .null, [], none),
  (105, 1, .aload_n 0, 0, 0, .null, [], none),
  (106, 3, .getfield 38, 9, 11, .null, [], none),
  (109, 1, .aload_n 0, 0, 0, .null, [], none),
  (110, 3, .getfield 62, 9, 22, .null, [], none),
  (113, 1, .aload_n 0, 0, 0, .null, [], none),
  (114, 1, .iload_n 2, 2, 0, .null, [], none),
  (115, 1, .iload_n 3, 3, 0, .null, [], none),
  (116, 3, .invokevirtual 174, 66, 3, .retAddr 0, [], none),
  (119, 1, .iaload, 0, 0, .null, [], none),
  (120, 1, .iaload, 0, 0, .null, [], none),
  (121, 1, .iastore, 0, 0, .null, [], none),
  (122, 3, .iinc 3 1, 3, 0, .int 1, [], none)] : List xr_E), xr_sd xm_P 86 e := by
  have hc : xp_cd xm_P 86 = prog_12_method_57_code := rfl
  have ho : xp_own xm_P 86 = "ExchangeTextModel" := rfl
  have hm : xp_ml xm_P 86 = 4 := rfl
  exact xl_cons (xk_aload_n hc xd_86_64 rfl) <|
    xl_cons (xk_iload_n hc xd_86_65 rfl) <|
    xl_cons (xk_iconst hc xd_86_66 (by decide)) <|
    xl_cons (xk_callV (Y := xm_y66) ho rfl (by decide) ⟨by decide, by decide⟩ xl_202 hc xd_86_67 rfl (b' := 2) rfl xm_nd66 (T := xm_T9) (N := 25) rfl xl_277 xl_278 xl_279) <|
    xl_cons (xk_iaload hc xd_86_70) <|
    xl_cons (xk_iaload hc xd_86_71) <|
    xl_cons (xk_iastore hc xd_86_72) <|
    xl_cons (xk_iconst hc xd_86_73 (by decide)) <|
    xl_cons (xk_istore_n hc xd_86_74 hm rfl (by decide)) <|
    xl_cons (xk_iload_n hc xd_86_75 rfl) <|
    xl_cons (xk_aload_n hc xd_86_76 rfl) <|
    xl_cons (xk_getfield (C := xm_C9) (T := xm_T9) (N := 25) hc xd_86_77 ho rfl (by decide) xm_u9 xl_193) <|
    xl_cons (xk_iload_n hc xd_86_80 rfl) <|
    xl_cons (xk_iaload hc xd_86_81) <|
    xl_cons (xk_if_icmp hc xd_86_82 (by decide)) <|
    xl_cons (xk_aload_n hc xd_86_85 rfl) <|
    xl_cons (xk_getfield (C := xm_C9) (T := xm_T9) (N := 25) hc xd_86_86 ho rfl (by decide) xm_u9 xl_192) <|
    xl_cons (xk_iload_n hc xd_86_89 rfl) <|
    xl_cons (xk_iaload hc xd_86_90) <|
    xl_cons (xk_iconst hc xd_86_91 (by decide)) <|
    xl_cons (xk_if_icmp hc xd_86_92 (by decide)) <|
    xl_cons (xk_aload_n hc xd_86_95 rfl) <|
    xl_cons (xk_getfield (C := xm_C9) (T := xm_T9) (N := 25) hc xd_86_96 ho rfl (by decide) xm_u9 xl_194) <|
    xl_cons (xk_bipush hc xd_86_99 (by decide)) <|
    xl_cons (xk_iload_n hc xd_86_101 rfl) <|
    xl_cons (xk_imul hc xd_86_102) <|
    xl_cons (xk_iload_n hc xd_86_103 rfl) <|
    xl_cons (xk_iadd hc xd_86_104) <|
    xl_cons (xk_aload_n hc xd_86_105 rfl) <|
    xl_cons (xk_getfield (C := xm_C9) (T := xm_T9) (N := 25) hc xd_86_106 ho rfl (by decide) xm_u9 xl_188) <|
    xl_cons (xk_aload_n hc xd_86_109 rfl) <|
    xl_cons (xk_getfield (C := xm_C9) (T := xm_T9) (N := 25) hc xd_86_110 ho rfl (by decide) xm_u9 xl_196) <|
    xl_cons (xk_aload_n hc xd_86_113 rfl) <|
    xl_cons (xk_iload_n hc xd_86_114 rfl) <|
    xl_cons (xk_iload_n hc xd_86_115 rfl) <|
    xl_cons (xk_callV (Y := xm_y66) ho rfl (by decide) ⟨by decide, by decide⟩ xl_202 hc xd_86_116 rfl (b' := 2) rfl xm_nd66 (T := xm_T9) (N := 25) rfl xl_277 xl_278 xl_279) <|
    xl_cons (xk_iaload hc xd_86_119) <|
    xl_cons (xk_iaload hc xd_86_120) <|
    xl_cons (xk_iastore hc xd_86_121) <|
    xl_cons (xk_iinc hc xd_86_122 hm rfl (by decide) (by decide)) (xl_nil)
set_option maxRecDepth 100000 in
theorem xo_86_2 : ∀ e ∈ ([(125, 3, .goto (-50), 75, 0, .null, [], none),
  (128, 3, .iinc 2 1, 2, 0, .int 1, [], none),
  (131, 3, .goto (-105), 26, 0, .null, [], none),
  (134, 3, .iinc 1 1, 1, 0, .int 1, [], none),
  (137, 3, .goto (-126), 11, 0, .null, [], none),
  (140, 1, .iconst 0, 0, 0, .int 0, [], none),
  (141, 1, .istore_n 1, 1, 0, .null, [], none),
  (142, 1, .iconst 0, 0, 0, .int 0, [], none),
  (143, 1, .istore_n 2, 2, 0, .null, [], none),
  (144, 1, .iconst 0, 0, 0, .int 0, [], none),
  (145, 1, .istore_n 3, 3, 0, .null, [], none),
  (146, 1, .iload_n 3, 3, 0, .null, [], none),
  (147, 1, .aload_n 0, 0, 0, .null, [], none),
  (148, 3, .getfield 35, 9, 10, .null, [], none),
  (151, 1, .iconst 0, 0, 0, .int 0, [], none),
  (152, 1, .iaload, 0, 0, .null, [], none),
  (153, 3, .if_icmp .ge 34, 187, 0, .null, [], none),
  (156, 1, .aload_n 0, 0, 0, .null, [], none),
  (157, 3, .getfield 62, 9, 22, .null, [], none),
  (160, 1, .iload_n 3, 3, 0, .null, [], none),
  (161, 1, .iaload, 0, 0, .null, [], none),
  (162, 1, .iload_n 3, 3, 0, .null, [], none),
  (163, 3, .if_icmp .eq 9, 172, 0, .null, [], none),
  (166, 3, .iinc 1 1, 1, 0, .int 1, [], none),
  (169, 3, .goto 12, 181, 0, .null, [], none),
  (172, 1, .aload_n 0, 0, 0, .null, [], none),
  (173, 1, .iload_n 2, 2, 0, .null, [], none),
  (174, 1, .iload_n 3, 3, 0, .null, [], none),
  (175, 3, .invokevirtual 155, 56, 3, .retAddr 0, [], none),
  (178, 3, .iinc 2 1, 2, 0, .int 1, [], none),
  (181, 3, .iinc 3 1, 3, 0, .int 1, [], none),
  (184, 3, .goto (-38), 146, 0, .null, [], none),
  (187, 1, .aload_n 0, 0, 0, .null, [], none),
  (188, 3, .getfield 35, 9, 10, .null, [], none),
  (191, 1, .iconst 0, 0, 0, .int 0, [], none),
  (192, 1, .iload_n 2, 2, 0, .null, [], none),
  (193, 1, .iastore, 0, 0, .null, [], none),
  (194, 1, .iload_n 1, 1, 0, .null, [], none),
  (195, 1, .ireturn, 0, 0, .null, [], none)] : List xr_E), xr_sd xm_P 86 e := by
  have hc : xp_cd xm_P 86 = prog_12_method_57_code := rfl
  have ho : xp_own xm_P 86 = "ExchangeTextModel" := rfl
  have hm : xp_ml xm_P 86 = 4 := rfl
  exact xl_cons (xk_goto hc xd_86_125 (by decide)) <|
    xl_cons (xk_iinc hc xd_86_128 hm rfl (by decide) (by decide)) <|
    xl_cons (xk_goto hc xd_86_131 (by decide)) <|
    xl_cons (xk_iinc hc xd_86_134 hm rfl (by decide) (by decide)) <|
    xl_cons (xk_goto hc xd_86_137 (by decide)) <|
    xl_cons (xk_iconst hc xd_86_140 (by decide)) <|
    xl_cons (xk_istore_n hc xd_86_141 hm rfl (by decide)) <|
    xl_cons (xk_iconst hc xd_86_142 (by decide)) <|
    xl_cons (xk_istore_n hc xd_86_143 hm rfl (by decide)) <|
    xl_cons (xk_iconst hc xd_86_144 (by decide)) <|
    xl_cons (xk_istore_n hc xd_86_145 hm rfl (by decide)) <|
    xl_cons (xk_iload_n hc xd_86_146 rfl) <|
    xl_cons (xk_aload_n hc xd_86_147 rfl) <|
    xl_cons (xk_getfield (C := xm_C9) (T := xm_T9) (N := 25) hc xd_86_148 ho rfl (by decide) xm_u9 xl_187) <|
    xl_cons (xk_iconst hc xd_86_151 (by decide)) <|
    xl_cons (xk_iaload hc xd_86_152) <|
    xl_cons (xk_if_icmp hc xd_86_153 (by decide)) <|
    xl_cons (xk_aload_n hc xd_86_156 rfl) <|
    xl_cons (xk_getfield (C := xm_C9) (T := xm_T9) (N := 25) hc xd_86_157 ho rfl (by decide) xm_u9 xl_196) <|
    xl_cons (xk_iload_n hc xd_86_160 rfl) <|
    xl_cons (xk_iaload hc xd_86_161) <|
    xl_cons (xk_iload_n hc xd_86_162 rfl) <|
    xl_cons (xk_if_icmp hc xd_86_163 (by decide)) <|
    xl_cons (xk_iinc hc xd_86_166 hm rfl (by decide) (by decide)) <|
    xl_cons (xk_goto hc xd_86_169 (by decide)) <|
    xl_cons (xk_aload_n hc xd_86_172 rfl) <|
    xl_cons (xk_iload_n hc xd_86_173 rfl) <|
    xl_cons (xk_iload_n hc xd_86_174 rfl) <|
    xl_cons (xk_callV (Y := xm_y56) ho rfl (by decide) ⟨by decide, by decide⟩ xl_202 hc xd_86_175 rfl (b' := 2) rfl xm_nd56 (T := xm_T9) (N := 25) rfl xl_261 xl_262 xl_263) <|
    xl_cons (xk_iinc hc xd_86_178 hm rfl (by decide) (by decide)) <|
    xl_cons (xk_iinc hc xd_86_181 hm rfl (by decide) (by decide)) <|
    xl_cons (xk_goto hc xd_86_184 (by decide)) <|
    xl_cons (xk_aload_n hc xd_86_187 rfl) <|
    xl_cons (xk_getfield (C := xm_C9) (T := xm_T9) (N := 25) hc xd_86_188 ho rfl (by decide) xm_u9 xl_187) <|
    xl_cons (xk_iconst hc xd_86_191 (by decide)) <|
    xl_cons (xk_iload_n hc xd_86_192 rfl) <|
    xl_cons (xk_iastore hc xd_86_193) <|
    xl_cons (xk_iload_n hc xd_86_194 rfl) <|
    xl_cons (xk_ireturn hc xd_86_195) (xl_nil)
theorem xo_86 : ∀ e ∈ xm_i86, xr_sd xm_P 86 e := xl_app xo_86_0 (xl_app xo_86_1 (xo_86_2))
set_option maxRecDepth 100000 in
theorem xo_87_0 : ∀ e ∈ ([(0, 1, .aload_n 0, 0, 0, .null, [], none),
  (1, 3, .getfield 41, 9, 12, .null, [], none),
  (4, 1, .iload_n 1, 1, 0, .null, [], none),
  (5, 1, .iaload, 0, 0, .null, [], none),
  (6, 1, .aload_n 0, 0, 0, .null, [], none),
  (7, 3, .getfield 41, 9, 12, .null, [], none),
  (10, 1, .iload_n 2, 2, 0, .null, [], none),
  (11, 1, .iaload, 0, 0, .null, [], none),
  (12, 3, .if_icmp .ne 50, 62, 0, .null, [], none),
  (15, 1, .aload_n 0, 0, 0, .null, [], none),
  (16, 3, .getfield 47, 9, 14, .null, [], none),
  (19, 1, .iload_n 1, 1, 0, .null, [], none),
  (20, 1, .iaload, 0, 0, .null, [], none),
  (21, 1, .aload_n 0, 0, 0, .null, [], none),
  (22, 3, .getfield 47, 9, 14, .null, [], none),
  (25, 1, .iload_n 2, 2, 0, .null, [], none),
  (26, 1, .iaload, 0, 0, .null, [], none),
  (27, 3, .if_icmp .ne 35, 62, 0, .null, [], none),
  (30, 1, .aload_n 0, 0, 0, .null, [], none),
  (31, 3, .getfield 44, 9, 13, .null, [], none),
  (34, 2, .bipush 8, 0, 0, .int 8, [], none),
  (36, 1, .iload_n 1, 1, 0, .null, [], none),
  (37, 1, .imul, 0, 0, .null, [], none),
  (38, 1, .aload_n 0, 0, 0, .null, [], none),
  (39, 3, .getfield 44, 9, 13, .null, [], none),
  (42, 2, .bipush 8, 0, 0, .int 8, [], none),
  (44, 1, .iload_n 2, 2, 0, .null, [], none),
  (45, 1, .imul, 0, 0, .null, [], none),
  (46, 1, .aload_n 0, 0, 0, .null, [], none),
  (47, 3, .getfield 41, 9, 12, .null, [], none),
  (50, 1, .iload_n 1, 1, 0, .null, [], none),
  (51, 1, .iaload, 0, 0, .null, [], none),
  (52, 3, .invokestatic 117, 47, 5, .retAddr 2, [], none),
  (55, 3, .ifCond .eq 7, 62, 0, .null, [], none),
  (58, 1, .iconst 1, 0, 0, .int 1, [], none),
  (59, 3, .goto 4, 63, 0, .null, [], none),
  (62, 1, .iconst 0, 0, 0, .int 0, [], none),
  (63, 1, .istore_n 3, 3, 0, .null, [], none),
  (64, 1, .iconst 0, 0, 0, .int 0, [], none),
  (65, 2, .istore 4, 4, 0, .null, [], none)] : List xr_E), xr_sd xm_P 87 e := by
  have hc : xp_cd xm_P 87 = prog_12_method_58_code := rfl
  have ho : xp_own xm_P 87 = "ExchangeTextModel" := rfl
  have hm : xp_ml xm_P 87 = 8 := rfl
  exact xl_cons (xk_aload_n hc xd_87_0 rfl) <|
    xl_cons (xk_getfield (C := xm_C9) (T := xm_T9) (N := 25) hc xd_87_1 ho rfl (by decide) xm_u9 xl_189) <|
    xl_cons (xk_iload_n hc xd_87_4 rfl) <|
    xl_cons (xk_iaload hc xd_87_5) <|
    xl_cons (xk_aload_n hc xd_87_6 rfl) <|
    xl_cons (xk_getfield (C := xm_C9) (T := xm_T9) (N := 25) hc xd_87_7 ho rfl (by decide) xm_u9 xl_189) <|
    xl_cons (xk_iload_n hc xd_87_10 rfl) <|
    xl_cons (xk_iaload hc xd_87_11) <|
    xl_cons (xk_if_icmp hc xd_87_12 (by decide)) <|
    xl_cons (xk_aload_n hc xd_87_15 rfl) <|
    xl_cons (xk_getfield (C := xm_C9) (T := xm_T9) (N := 25) hc xd_87_16 ho rfl (by decide) xm_u9 xl_191) <|
    xl_cons (xk_iload_n hc xd_87_19 rfl) <|
    xl_cons (xk_iaload hc xd_87_20) <|
    xl_cons (xk_aload_n hc xd_87_21 rfl) <|
    xl_cons (xk_getfield (C := xm_C9) (T := xm_T9) (N := 25) hc xd_87_22 ho rfl (by decide) xm_u9 xl_191) <|
    xl_cons (xk_iload_n hc xd_87_25 rfl) <|
    xl_cons (xk_iaload hc xd_87_26) <|
    xl_cons (xk_if_icmp hc xd_87_27 (by decide)) <|
    xl_cons (xk_aload_n hc xd_87_30 rfl) <|
    xl_cons (xk_getfield (C := xm_C9) (T := xm_T9) (N := 25) hc xd_87_31 ho rfl (by decide) xm_u9 xl_190) <|
    xl_cons (xk_bipush hc xd_87_34 (by decide)) <|
    xl_cons (xk_iload_n hc xd_87_36 rfl) <|
    xl_cons (xk_imul hc xd_87_37) <|
    xl_cons (xk_aload_n hc xd_87_38 rfl) <|
    xl_cons (xk_getfield (C := xm_C9) (T := xm_T9) (N := 25) hc xd_87_39 ho rfl (by decide) xm_u9 xl_190) <|
    xl_cons (xk_bipush hc xd_87_42 (by decide)) <|
    xl_cons (xk_iload_n hc xd_87_44 rfl) <|
    xl_cons (xk_imul hc xd_87_45) <|
    xl_cons (xk_aload_n hc xd_87_46 rfl) <|
    xl_cons (xk_getfield (C := xm_C9) (T := xm_T9) (N := 25) hc xd_87_47 ho rfl (by decide) xm_u9 xl_189) <|
    xl_cons (xk_iload_n hc xd_87_50 rfl) <|
    xl_cons (xk_iaload hc xd_87_51) <|
    xl_cons (xk_callS (Y := xm_y47) ho rfl (by decide) ⟨by decide, by decide⟩ xl_202 hc xd_87_52 rfl xm_nd47 xl_228 xl_229) <|
    xl_cons (xk_ifCond hc xd_87_55 (by decide)) <|
    xl_cons (xk_iconst hc xd_87_58 (by decide)) <|
    xl_cons (xk_goto hc xd_87_59 (by decide)) <|
    xl_cons (xk_iconst hc xd_87_62 (by decide)) <|
    xl_cons (xk_istore_n hc xd_87_63 hm rfl (by decide)) <|
    xl_cons (xk_iconst hc xd_87_64 (by decide)) <|
    xl_cons (xk_istore hc xd_87_65 hm rfl (by decide)) (xl_nil)
set_option maxRecDepth 100000 in
theorem xo_87_1 : ∀ e ∈ ([(67, 2, .iload 4, 4, 0, .null, [], none),
  (69, 1, .aload_n 0, 0, 0, .null, [], none),
  (70, 3, .getfield 47, 9, 14, .null, [], none),
  (73, 1, .iload_n 1, 1, 0, .null, [], none),
  (74, 1, .iaload, 0, 0, .null, [], none),
  (75, 3, .if_icmp .ge 168, 243, 0, .null, [], none),
  (78, 1, .iload_n 3, 3, 0, .null, [], none),
  (79, 3, .ifCond .eq 164, 243, 0, .null, [], none),
  (82, 2, .bipush 8, 0, 0, .int 8, [], none),
  (84, 1, .iload_n 1, 1, 0, .null, [], none),
  (85, 1, .imul, 0, 0, .null, [], none),
  (86, 2, .iload 4, 4, 0, .null, [], none),
  (88, 1, .iadd, 0, 0, .null, [], none),
  (89, 2, .istore 5, 5, 0, .null, [], none),
  (91, 2, .bipush 8, 0, 0, .int 8, [], none),
  (93, 1, .iload_n 2, 2, 0, .null, [], none),
  (94, 1, .imul, 0, 0, .null, [], none),
  (95, 2, .iload 4, 4, 0, .null, [], none),
  (97, 1, .iadd, 0, 0, .null, [], none),
  (98, 2, .istore 6, 6, 0, .null, [], none),
  (100, 1, .aload_n 0, 0, 0, .null, [], none),
  (101, 3, .getfield 50, 9, 15, .null, [], none),
  (104, 2, .iload 5, 5, 0, .null, [], none),
  (106, 1, .iaload, 0, 0, .null, [], none),
  (107, 1, .aload_n 0, 0, 0, .null, [], none),
  (108, 3, .getfield 50, 9, 15, .null, [], none),
  (111, 2, .iload 6, 6, 0, .null, [], none),
  (113, 1, .iaload, 0, 0, .null, [], none),
  (114, 3, .if_icmp .ne 24, 138, 0, .null, [], none),
  (117, 1, .aload_n 0, 0, 0, .null, [], none),
  (118, 3, .getfield 53, 9, 16, .null, [], none),
  (121, 2, .iload 5, 5, 0, .null, [], none),
  (123, 1, .iaload, 0, 0, .null, [], none),
  (124, 1, .aload_n 0, 0, 0, .null, [], none),
  (125, 3, .getfield 53, 9, 16, .null, [], none),
  (128, 2, .iload 6, 6, 0, .null, [], none),
  (130, 1, .iaload, 0, 0, .null, [], none),
  (131, 3, .if_icmp .ne 7, 138, 0, .null, [], none),
  (134, 1, .iconst 1, 0, 0, .int 1, [], none),
  (135, 3, .goto 4, 139, 0, .null, [], none)] : List xr_E), xr_sd xm_P 87 e := by
  have hc : xp_cd xm_P 87 = prog_12_method_58_code := rfl
  have ho : xp_own xm_P 87 = "ExchangeTextModel" := rfl
  have hm : xp_ml xm_P 87 = 8 := rfl
  exact xl_cons (xk_iload hc xd_87_67 rfl) <|
    xl_cons (xk_aload_n hc xd_87_69 rfl) <|
    xl_cons (xk_getfield (C := xm_C9) (T := xm_T9) (N := 25) hc xd_87_70 ho rfl (by decide) xm_u9 xl_191) <|
    xl_cons (xk_iload_n hc xd_87_73 rfl) <|
    xl_cons (xk_iaload hc xd_87_74) <|
    xl_cons (xk_if_icmp hc xd_87_75 (by decide)) <|
    xl_cons (xk_iload_n hc xd_87_78 rfl) <|
    xl_cons (xk_ifCond hc xd_87_79 (by decide)) <|
    xl_cons (xk_bipush hc xd_87_82 (by decide)) <|
    xl_cons (xk_iload_n hc xd_87_84 rfl) <|
    xl_cons (xk_imul hc xd_87_85) <|
    xl_cons (xk_iload hc xd_87_86 rfl) <|
    xl_cons (xk_iadd hc xd_87_88) <|
    xl_cons (xk_istore hc xd_87_89 hm rfl (by decide)) <|
    xl_cons (xk_bipush hc xd_87_91 (by decide)) <|
    xl_cons (xk_iload_n hc xd_87_93 rfl) <|
    xl_cons (xk_imul hc xd_87_94) <|
    xl_cons (xk_iload hc xd_87_95 rfl) <|
    xl_cons (xk_iadd hc xd_87_97) <|
    xl_cons (xk_istore hc xd_87_98 hm rfl (by decide)) <|
    xl_cons (xk_aload_n hc xd_87_100 rfl) <|
    xl_cons (xk_getfield (C := xm_C9) (T := xm_T9) (N := 25) hc xd_87_101 ho rfl (by decide) xm_u9 xl_192) <|
    xl_cons (xk_iload hc xd_87_104 rfl) <|
    xl_cons (xk_iaload hc xd_87_106) <|
    xl_cons (xk_aload_n hc xd_87_107 rfl) <|
    xl_cons (xk_getfield (C := xm_C9) (T := xm_T9) (N := 25) hc xd_87_108 ho rfl (by decide) xm_u9 xl_192) <|
    xl_cons (xk_iload hc xd_87_111 rfl) <|
    xl_cons (xk_iaload hc xd_87_113) <|
    xl_cons (xk_if_icmp hc xd_87_114 (by decide)) <|
    xl_cons (xk_aload_n hc xd_87_117 rfl) <|
    xl_cons (xk_getfield (C := xm_C9) (T := xm_T9) (N := 25) hc xd_87_118 ho rfl (by decide) xm_u9 xl_193) <|
    xl_cons (xk_iload hc xd_87_121 rfl) <|
    xl_cons (xk_iaload hc xd_87_123) <|
    xl_cons (xk_aload_n hc xd_87_124 rfl) <|
    xl_cons (xk_getfield (C := xm_C9) (T := xm_T9) (N := 25) hc xd_87_125 ho rfl (by decide) xm_u9 xl_193) <|
    xl_cons (xk_iload hc xd_87_128 rfl) <|
    xl_cons (xk_iaload hc xd_87_130) <|
    xl_cons (xk_if_icmp hc xd_87_131 (by decide)) <|
    xl_cons (xk_iconst hc xd_87_134 (by decide)) <|
    xl_cons (xk_goto hc xd_87_135 (by decide)) (xl_nil)
set_option maxRecDepth 100000 in
theorem xo_87_2 : ∀ e ∈ ([(138, 1, .iconst 0, 0, 0, .int 0, [], none),
  (139, 1, .istore_n 3, 3, 0, .null, [], none),
  (140, 1, .aload_n 0, 0, 0, .null, [], none),
  (141, 3, .getfield 50, 9, 15, .null, [], none),
  (144, 2, .iload 5, 5, 0, .null, [], none),
  (146, 1, .iaload, 0, 0, .null, [], none),
  (147, 1, .iconst 1, 0, 0, .int 1, [], none),
  (148, 3, .if_icmp .eq 36, 184, 0, .null, [], none),
  (151, 1, .aload_n 0, 0, 0, .null, [], none),
  (152, 3, .getfield 50, 9, 15, .null, [], none),
  (155, 2, .iload 5, 5, 0, .null, [], none),
  (157, 1, .iaload, 0, 0, .null, [], none),
  (158, 1, .iconst 5, 0, 0, .int 5, [], none),
  (159, 3, .if_icmp .eq 25, 184, 0, .null, [], none),
  (162, 1, .aload_n 0, 0, 0, .null, [], none),
  (163, 3, .getfield 50, 9, 15, .null, [], none),
  (166, 2, .iload 5, 5, 0, .null, [], none),
  (168, 1, .iaload, 0, 0, .null, [], none),
  (169, 1, .iconst 3, 0, 0, .int 3, [], none),
  (170, 3, .if_icmp .eq 14, 184, 0, .null, [], none),
  (173, 1, .aload_n 0, 0, 0, .null, [], none),
  (174, 3, .getfield 50, 9, 15, .null, [], none),
  (177, 2, .iload 5, 5, 0, .null, [], none),
  (179, 1, .iaload, 0, 0, .null, [], none),
  (180, 1, .iconst 4, 0, 0, .int 4, [], none),
  (181, 3, .if_icmp .ne 7, 188, 0, .null, [], none),
  (184, 1, .iconst 1, 0, 0, .int 1, [], none),
  (185, 3, .goto 4, 189, 0, .null, [], none),
  (188, 1, .iconst 0, 0, 0, .int 0, [], none),
  (189, 2, .istore 7, 7, 0, .null, [], none),
  (191, 1, .iload_n 3, 3, 0, .null, [], none),
  (192, 3, .ifCond .eq 43, 235, 0, .null, [], none),
  (195, 2, .iload 7, 7, 0, .null, [], none),
  (197, 3, .ifCond .eq 34, 231, 0, .null, [], none),
  (200, 1, .aload_n 0, 0, 0, .null, [], none),
  (201, 3, .getfield 56, 9, 17, .null, [], none),
  (204, 2, .bipush 20, 0, 0, .int 20, [], none),
  (206, 2, .iload 5, 5, 0, .null, [], none),
  (208, 1, .imul, 0, 0, .null, [], none),
  (209, 1, .aload_n 0, 0, 0, .null, [], none)] : List xr_E), xr_sd xm_P 87 e := by
  have hc : xp_cd xm_P 87 = prog_12_method_58_code := rfl
  have ho : xp_own xm_P 87 = "ExchangeTextModel" := rfl
  have hm : xp_ml xm_P 87 = 8 := rfl
  exact xl_cons (xk_iconst hc xd_87_138 (by decide)) <|
    xl_cons (xk_istore_n hc xd_87_139 hm rfl (by decide)) <|
    xl_cons (xk_aload_n hc xd_87_140 rfl) <|
    xl_cons (xk_getfield (C := xm_C9) (T := xm_T9) (N := 25) hc xd_87_141 ho rfl (by decide) xm_u9 xl_192) <|
    xl_cons (xk_iload hc xd_87_144 rfl) <|
    xl_cons (xk_iaload hc xd_87_146) <|
    xl_cons (xk_iconst hc xd_87_147 (by decide)) <|
    xl_cons (xk_if_icmp hc xd_87_148 (by decide)) <|
    xl_cons (xk_aload_n hc xd_87_151 rfl) <|
    xl_cons (xk_getfield (C := xm_C9) (T := xm_T9) (N := 25) hc xd_87_152 ho rfl (by decide) xm_u9 xl_192) <|
    xl_cons (xk_iload hc xd_87_155 rfl) <|
    xl_cons (xk_iaload hc xd_87_157) <|
    xl_cons (xk_iconst hc xd_87_158 (by decide)) <|
    xl_cons (xk_if_icmp hc xd_87_159 (by decide)) <|
    xl_cons (xk_aload_n hc xd_87_162 rfl) <|
    xl_cons (xk_getfield (C := xm_C9) (T := xm_T9) (N := 25) hc xd_87_163 ho rfl (by decide) xm_u9 xl_192) <|
    xl_cons (xk_iload hc xd_87_166 rfl) <|
    xl_cons (xk_iaload hc xd_87_168) <|
    xl_cons (xk_iconst hc xd_87_169 (by decide)) <|
    xl_cons (xk_if_icmp hc xd_87_170 (by decide)) <|
    xl_cons (xk_aload_n hc xd_87_173 rfl) <|
    xl_cons (xk_getfield (C := xm_C9) (T := xm_T9) (N := 25) hc xd_87_174 ho rfl (by decide) xm_u9 xl_192) <|
    xl_cons (xk_iload hc xd_87_177 rfl) <|
    xl_cons (xk_iaload hc xd_87_179) <|
    xl_cons (xk_iconst hc xd_87_180 (by decide)) <|
    xl_cons (xk_if_icmp hc xd_87_181 (by decide)) <|
    xl_cons (xk_iconst hc xd_87_184 (by decide)) <|
    xl_cons (xk_goto hc xd_87_185 (by decide)) <|
    xl_cons (xk_iconst hc xd_87_188 (by decide)) <|
    xl_cons (xk_istore hc xd_87_189 hm rfl (by decide)) <|
    xl_cons (xk_iload_n hc xd_87_191 rfl) <|
    xl_cons (xk_ifCond hc xd_87_192 (by decide)) <|
    xl_cons (xk_iload hc xd_87_195 rfl) <|
    xl_cons (xk_ifCond hc xd_87_197 (by decide)) <|
    xl_cons (xk_aload_n hc xd_87_200 rfl) <|
    xl_cons (xk_getfield (C := xm_C9) (T := xm_T9) (N := 25) hc xd_87_201 ho rfl (by decide) xm_u9 xl_194) <|
    xl_cons (xk_bipush hc xd_87_204 (by decide)) <|
    xl_cons (xk_iload hc xd_87_206 rfl) <|
    xl_cons (xk_imul hc xd_87_208) <|
    xl_cons (xk_aload_n hc xd_87_209 rfl) (xl_nil)
set_option maxRecDepth 100000 in
theorem xo_87_3 : ∀ e ∈ ([(210, 3, .getfield 56, 9, 17, .null, [], none),
  (213, 2, .bipush 20, 0, 0, .int 20, [], none),
  (215, 2, .iload 6, 6, 0, .null, [], none),
  (217, 1, .imul, 0, 0, .null, [], none),
  (218, 1, .aload_n 0, 0, 0, .null, [], none),
  (219, 3, .getfield 53, 9, 16, .null, [], none),
  (222, 2, .iload 5, 5, 0, .null, [], none),
  (224, 1, .iaload, 0, 0, .null, [], none),
  (225, 3, .invokestatic 117, 47, 5, .retAddr 2, [], none),
  (228, 3, .ifCond .eq 7, 235, 0, .null, [], none),
  (231, 1, .iconst 1, 0, 0, .int 1, [], none),
  (232, 3, .goto 4, 236, 0, .null, [], none),
  (235, 1, .iconst 0, 0, 0, .int 0, [], none),
  (236, 1, .istore_n 3, 3, 0, .null, [], none),
  (237, 3, .iinc 4 1, 4, 0, .int 1, [], none),
  (240, 3, .goto (-173), 67, 0, .null, [], none),
  (243, 1, .iload_n 3, 3, 0, .null, [], none),
  (244, 1, .ireturn, 0, 0, .null, [], none)] : List xr_E), xr_sd xm_P 87 e := by
  have hc : xp_cd xm_P 87 = prog_12_method_58_code := rfl
  have ho : xp_own xm_P 87 = "ExchangeTextModel" := rfl
  have hm : xp_ml xm_P 87 = 8 := rfl
  exact xl_cons (xk_getfield (C := xm_C9) (T := xm_T9) (N := 25) hc xd_87_210 ho rfl (by decide) xm_u9 xl_194) <|
    xl_cons (xk_bipush hc xd_87_213 (by decide)) <|
    xl_cons (xk_iload hc xd_87_215 rfl) <|
    xl_cons (xk_imul hc xd_87_217) <|
    xl_cons (xk_aload_n hc xd_87_218 rfl) <|
    xl_cons (xk_getfield (C := xm_C9) (T := xm_T9) (N := 25) hc xd_87_219 ho rfl (by decide) xm_u9 xl_193) <|
    xl_cons (xk_iload hc xd_87_222 rfl) <|
    xl_cons (xk_iaload hc xd_87_224) <|
    xl_cons (xk_callS (Y := xm_y47) ho rfl (by decide) ⟨by decide, by decide⟩ xl_202 hc xd_87_225 rfl xm_nd47 xl_228 xl_229) <|
    xl_cons (xk_ifCond hc xd_87_228 (by decide)) <|
    xl_cons (xk_iconst hc xd_87_231 (by decide)) <|
    xl_cons (xk_goto hc xd_87_232 (by decide)) <|
    xl_cons (xk_iconst hc xd_87_235 (by decide)) <|
    xl_cons (xk_istore_n hc xd_87_236 hm rfl (by decide)) <|
    xl_cons (xk_iinc hc xd_87_237 hm rfl (by decide) (by decide)) <|
    xl_cons (xk_goto hc xd_87_240 (by decide)) <|
    xl_cons (xk_iload_n hc xd_87_243 rfl) <|
    xl_cons (xk_ireturn hc xd_87_244) (xl_nil)
theorem xo_87 : ∀ e ∈ xm_i87, xr_sd xm_P 87 e := xl_app xo_87_0 (xl_app xo_87_1 (xl_app xo_87_2 (xo_87_3)))
set_option maxRecDepth 100000 in
theorem xo_88_0 : ∀ e ∈ ([(0, 1, .aload_n 0, 0, 0, .null, [], none),
  (1, 1, .iconst 0, 0, 0, .int 0, [], none),
  (2, 3, .putfield 69, 9, 0, .null, [], none),
  (5, 1, .aload_n 0, 0, 0, .null, [], none),
  (6, 1, .iload_n 1, 1, 0, .null, [], none),
  (7, 3, .ifCond .lt 12, 19, 0, .null, [], none),
  (10, 1, .iload_n 2, 2, 0, .null, [], none),
  (11, 3, .ifCond .lt 8, 19, 0, .null, [], none),
  (14, 1, .iload_n 2, 2, 0, .null, [], none),
  (15, 1, .iconst 1, 0, 0, .int 1, [], none),
  (16, 3, .if_icmp .le 7, 23, 0, .null, [], none),
  (19, 1, .iconst 1, 0, 0, .int 1, [], none),
  (20, 3, .goto 4, 24, 0, .null, [], none),
  (23, 1, .iconst 0, 0, 0, .int 0, [], none),
  (24, 1, .iconst 1, 0, 0, .int 1, [], none),
  (25, 3, .invokevirtual 75, 32, 3, .retAddr 0, [], none),
  (28, 3, .ifCond .eq 5, 33, 0, .null, [], none),
  (31, 1, .iconst 0, 0, 0, .int 0, [], none),
  (32, 1, .ireturn, 0, 0, .null, [], none),
  (33, 1, .iload_n 1, 1, 0, .null, [], none),
  (34, 1, .istore_n 3, 3, 0, .null, [], none),
  (35, 1, .iconst 1, 0, 0, .int 1, [], none),
  (36, 2, .istore 4, 4, 0, .null, [], none),
  (38, 2, .iload 4, 4, 0, .null, [], none),
  (40, 3, .sipush 1000, 0, 0, .int 1000, [], none),
  (43, 3, .if_icmp .ge 108, 151, 0, .null, [], none),
  (46, 1, .aload_n 0, 0, 0, .null, [], none),
  (47, 1, .iconst 0, 0, 0, .int 0, [], none),
  (48, 2, .iload 4, 4, 0, .null, [], none),
  (50, 3, .invokevirtual 143, 50, 3, .retAddr 0, [], none),
  (53, 2, .istore 5, 5, 0, .null, [], none),
  (55, 1, .aload_n 0, 0, 0, .null, [], none),
  (56, 1, .iconst 2, 0, 0, .int 2, [], none),
  (57, 2, .iload 4, 4, 0, .null, [], none),
  (59, 3, .invokevirtual 143, 50, 3, .retAddr 0, [], none),
  (62, 2, .istore 6, 6, 0, .null, [], none),
  (64, 2, .iload 5, 5, 0, .null, [], none),
  (66, 1, .iconst (-1), 0, 0, .int (-1), [], none),
  (67, 3, .if_icmp .ne 13, 80, 0, .null, [], none),
  (70, 2, .iload 6, 6, 0, .null, [], none)] : List xr_E), xr_sd xm_P 88 e := by
  have hc : xp_cd xm_P 88 = prog_12_method_59_code := rfl
  have ho : xp_own xm_P 88 = "ExchangeTextModel" := rfl
  have hm : xp_ml xm_P 88 = 8 := rfl
  exact xl_cons (xk_aload_n hc xd_88_0 rfl) <|
    xl_cons (xk_iconst hc xd_88_1 (by decide)) <|
    xl_cons (xk_putfield (C := xm_C9) (T := xm_T9) (N := 25) (ty := xm_ty9) hc xd_88_2 ho rfl (by decide) xm_u9 xm_tk9 rfl xm_nm9 xl_199 rfl) <|
    xl_cons (xk_aload_n hc xd_88_5 rfl) <|
    xl_cons (xk_iload_n hc xd_88_6 rfl) <|
    xl_cons (xk_ifCond hc xd_88_7 (by decide)) <|
    xl_cons (xk_iload_n hc xd_88_10 rfl) <|
    xl_cons (xk_ifCond hc xd_88_11 (by decide)) <|
    xl_cons (xk_iload_n hc xd_88_14 rfl) <|
    xl_cons (xk_iconst hc xd_88_15 (by decide)) <|
    xl_cons (xk_if_icmp hc xd_88_16 (by decide)) <|
    xl_cons (xk_iconst hc xd_88_19 (by decide)) <|
    xl_cons (xk_goto hc xd_88_20 (by decide)) <|
    xl_cons (xk_iconst hc xd_88_23 (by decide)) <|
    xl_cons (xk_iconst hc xd_88_24 (by decide)) <|
    xl_cons (xk_callV (Y := xm_y32) ho rfl (by decide) ⟨by decide, by decide⟩ xl_202 hc xd_88_25 rfl (b' := 2) rfl xm_nd32 (T := xm_T9) (N := 25) rfl xl_201 xl_203 xl_204) <|
    xl_cons (xk_ifCond hc xd_88_28 (by decide)) <|
    xl_cons (xk_iconst hc xd_88_31 (by decide)) <|
    xl_cons (xk_ireturn hc xd_88_32) <|
    xl_cons (xk_iload_n hc xd_88_33 rfl) <|
    xl_cons (xk_istore_n hc xd_88_34 hm rfl (by decide)) <|
    xl_cons (xk_iconst hc xd_88_35 (by decide)) <|
    xl_cons (xk_istore hc xd_88_36 hm rfl (by decide)) <|
    xl_cons (xk_iload hc xd_88_38 rfl) <|
    xl_cons (xk_sipush hc xd_88_40 (by decide)) <|
    xl_cons (xk_if_icmp hc xd_88_43 (by decide)) <|
    xl_cons (xk_aload_n hc xd_88_46 rfl) <|
    xl_cons (xk_iconst hc xd_88_47 (by decide)) <|
    xl_cons (xk_iload hc xd_88_48 rfl) <|
    xl_cons (xk_callV (Y := xm_y50) ho rfl (by decide) ⟨by decide, by decide⟩ xl_202 hc xd_88_50 rfl (b' := 2) rfl xm_nd50 (T := xm_T9) (N := 25) rfl xl_249 xl_250 xl_251) <|
    xl_cons (xk_istore hc xd_88_53 hm rfl (by decide)) <|
    xl_cons (xk_aload_n hc xd_88_55 rfl) <|
    xl_cons (xk_iconst hc xd_88_56 (by decide)) <|
    xl_cons (xk_iload hc xd_88_57 rfl) <|
    xl_cons (xk_callV (Y := xm_y50) ho rfl (by decide) ⟨by decide, by decide⟩ xl_202 hc xd_88_59 rfl (b' := 2) rfl xm_nd50 (T := xm_T9) (N := 25) rfl xl_249 xl_250 xl_251) <|
    xl_cons (xk_istore hc xd_88_62 hm rfl (by decide)) <|
    xl_cons (xk_iload hc xd_88_64 rfl) <|
    xl_cons (xk_iconst hc xd_88_66 (by decide)) <|
    xl_cons (xk_if_icmp hc xd_88_67 (by decide)) <|
    xl_cons (xk_iload hc xd_88_70 rfl) (xl_nil)
set_option maxRecDepth 100000 in
theorem xo_88_1 : ∀ e ∈ ([(72, 1, .iconst (-1), 0, 0, .int (-1), [], none),
  (73, 3, .if_icmp .ne 7, 80, 0, .null, [], none),
  (76, 1, .iconst 0, 0, 0, .int 0, [], none),
  (77, 3, .goto 39, 116, 0, .null, [], none),
  (80, 2, .iload 5, 5, 0, .null, [], none),
  (82, 1, .iconst (-1), 0, 0, .int (-1), [], none),
  (83, 3, .if_icmp .ne 7, 90, 0, .null, [], none),
  (86, 1, .iconst 1, 0, 0, .int 1, [], none),
  (87, 3, .goto 29, 116, 0, .null, [], none),
  (90, 2, .iload 6, 6, 0, .null, [], none),
  (92, 1, .iconst (-1), 0, 0, .int (-1), [], none),
  (93, 3, .if_icmp .ne 7, 100, 0, .null, [], none),
  (96, 1, .iconst 2, 0, 0, .int 2, [], none),
  (97, 3, .goto 19, 116, 0, .null, [], none),
  (100, 1, .aload_n 0, 0, 0, .null, [], none),
  (101, 2, .iload 5, 5, 0, .null, [], none),
  (103, 2, .iload 6, 6, 0, .null, [], none),
  (105, 3, .invokevirtual 215, 87, 3, .retAddr 0, [], none),
  (108, 3, .ifCond .eq 7, 115, 0, .null, [], none),
  (111, 1, .iconst 0, 0, 0, .int 0, [], none),
  (112, 3, .goto 4, 116, 0, .null, [], none),
  (115, 1, .iconst 3, 0, 0, .int 3, [], none),
  (116, 2, .istore 7, 7, 0, .null, [], none),
  (118, 2, .iload 7, 7, 0, .null, [], none),
  (120, 3, .ifCond .ne 6, 126, 0, .null, [], none),
  (123, 3, .goto 22, 145, 0, .null, [], none),
  (126, 1, .iload_n 3, 3, 0, .null, [], none),
  (127, 3, .ifCond .ne 15, 142, 0, .null, [], none),
  (130, 1, .iload_n 2, 2, 0, .null, [], none),
  (131, 3, .ifCond .ne 8, 139, 0, .null, [], none),
  (134, 2, .iload 4, 4, 0, .null, [], none),
  (136, 3, .goto 5, 141, 0, .null, [], none),
  (139, 2, .iload 7, 7, 0, .null, [], none),
  (141, 1, .ireturn, 0, 0, .null, [], none),
  (142, 3, .iinc 3 (-1), 3, 0, .int (-1), [], none),
  (145, 3, .iinc 4 1, 4, 0, .int 1, [], none),
  (148, 3, .goto (-110), 38, 0, .null, [], none),
  (151, 1, .iconst (-1), 0, 0, .int (-1), [], none),
  (152, 1, .ireturn, 0, 0, .null, [], none)] : List xr_E), xr_sd xm_P 88 e := by
  have hc : xp_cd xm_P 88 = prog_12_method_59_code := rfl
  have ho : xp_own xm_P 88 = "ExchangeTextModel" := rfl
  have hm : xp_ml xm_P 88 = 8 := rfl
  exact xl_cons (xk_iconst hc xd_88_72 (by decide)) <|
    xl_cons (xk_if_icmp hc xd_88_73 (by decide)) <|
    xl_cons (xk_iconst hc xd_88_76 (by decide)) <|
    xl_cons (xk_goto hc xd_88_77 (by decide)) <|
    xl_cons (xk_iload hc xd_88_80 rfl) <|
    xl_cons (xk_iconst hc xd_88_82 (by decide)) <|
    xl_cons (xk_if_icmp hc xd_88_83 (by decide)) <|
    xl_cons (xk_iconst hc xd_88_86 (by decide)) <|
    xl_cons (xk_goto hc xd_88_87 (by decide)) <|
    xl_cons (xk_iload hc xd_88_90 rfl) <|
    xl_cons (xk_iconst hc xd_88_92 (by decide)) <|
    xl_cons (xk_if_icmp hc xd_88_93 (by decide)) <|
    xl_cons (xk_iconst hc xd_88_96 (by decide)) <|
    xl_cons (xk_goto hc xd_88_97 (by decide)) <|
    xl_cons (xk_aload_n hc xd_88_100 rfl) <|
    xl_cons (xk_iload hc xd_88_101 rfl) <|
    xl_cons (xk_iload hc xd_88_103 rfl) <|
    xl_cons (xk_callV (Y := xm_y87) ho rfl (by decide) ⟨by decide, by decide⟩ xl_202 hc xd_88_105 rfl (b' := 2) rfl xm_nd87 (T := xm_T9) (N := 25) rfl xl_316 xl_317 xl_318) <|
    xl_cons (xk_ifCond hc xd_88_108 (by decide)) <|
    xl_cons (xk_iconst hc xd_88_111 (by decide)) <|
    xl_cons (xk_goto hc xd_88_112 (by decide)) <|
    xl_cons (xk_iconst hc xd_88_115 (by decide)) <|
    xl_cons (xk_istore hc xd_88_116 hm rfl (by decide)) <|
    xl_cons (xk_iload hc xd_88_118 rfl) <|
    xl_cons (xk_ifCond hc xd_88_120 (by decide)) <|
    xl_cons (xk_goto hc xd_88_123 (by decide)) <|
    xl_cons (xk_iload_n hc xd_88_126 rfl) <|
    xl_cons (xk_ifCond hc xd_88_127 (by decide)) <|
    xl_cons (xk_iload_n hc xd_88_130 rfl) <|
    xl_cons (xk_ifCond hc xd_88_131 (by decide)) <|
    xl_cons (xk_iload hc xd_88_134 rfl) <|
    xl_cons (xk_goto hc xd_88_136 (by decide)) <|
    xl_cons (xk_iload hc xd_88_139 rfl) <|
    xl_cons (xk_ireturn hc xd_88_141) <|
    xl_cons (xk_iinc hc xd_88_142 hm rfl (by decide) (by decide)) <|
    xl_cons (xk_iinc hc xd_88_145 hm rfl (by decide) (by decide)) <|
    xl_cons (xk_goto hc xd_88_148 (by decide)) <|
    xl_cons (xk_iconst hc xd_88_151 (by decide)) <|
    xl_cons (xk_ireturn hc xd_88_152) (xl_nil)
theorem xo_88 : ∀ e ∈ xm_i88, xr_sd xm_P 88 e := xl_app xo_88_0 (xo_88_1)
set_option maxRecDepth 100000 in
theorem xo_89_0 : ∀ e ∈ ([(0, 1, .aload_n 0, 0, 0, .null, [], none),
  (1, 1, .iconst 0, 0, 0, .int 0, [], none),
  (2, 3, .putfield 69, 9, 0, .null, [], none),
  (5, 1, .aload_n 0, 0, 0, .null, [], none),
  (6, 1, .iload_n 1, 1, 0, .null, [], none),
  (7, 3, .ifCond .lt 8, 15, 0, .null, [], none),
  (10, 1, .iload_n 1, 1, 0, .null, [], none),
  (11, 1, .iconst 3, 0, 0, .int 3, [], none),
  (12, 3, .if_icmp .le 7, 19, 0, .null, [], none),
  (15, 1, .iconst 1, 0, 0, .int 1, [], none),
  (16, 3, .goto 4, 20, 0, .null, [], none),
  (19, 1, .iconst 0, 0, 0, .int 0, [], none),
  (20, 1, .iconst 1, 0, 0, .int 1, [], none),
  (21, 3, .invokevirtual 75, 32, 3, .retAddr 0, [], none),
  (24, 3, .ifCond .eq 5, 29, 0, .null, [], none),
  (27, 1, .iconst 0, 0, 0, .int 0, [], none),
  (28, 1, .ireturn, 0, 0, .null, [], none),
  (29, 1, .iload_n 1, 1, 0, .null, [], none),
  (30, 3, .ifCond .ne 10, 40, 0, .null, [], none),
  (33, 1, .aload_n 0, 0, 0, .null, [], none),
  (34, 3, .getfield 79, 9, 1, .null, [], none),
  (37, 3, .goto 37, 74, 0, .null, [], none),
  (40, 1, .iload_n 1, 1, 0, .null, [], none),
  (41, 1, .iconst 1, 0, 0, .int 1, [], none),
  (42, 3, .if_icmp .ne 12, 54, 0, .null, [], none),
  (45, 1, .aload_n 0, 0, 0, .null, [], none),
  (46, 3, .getfield 16, 9, 4, .null, [], none),
  (49, 1, .iconst 0, 0, 0, .int 0, [], none),
  (50, 1, .iaload, 0, 0, .null, [], none),
  (51, 3, .goto 23, 74, 0, .null, [], none),
  (54, 1, .iload_n 1, 1, 0, .null, [], none),
  (55, 1, .iconst 2, 0, 0, .int 2, [], none),
  (56, 3, .if_icmp .ne 12, 68, 0, .null, [], none),
  (59, 1, .aload_n 0, 0, 0, .null, [], none),
  (60, 3, .getfield 35, 9, 10, .null, [], none),
  (63, 1, .iconst 0, 0, 0, .int 0, [], none),
  (64, 1, .iaload, 0, 0, .null, [], none),
  (65, 3, .goto 9, 74, 0, .null, [], none),
  (68, 1, .aload_n 0, 0, 0, .null, [], none),
  (69, 3, .getfield 35, 9, 10, .null, [], none)] : List xr_E), xr_sd xm_P 89 e := by
  have hc : xp_cd xm_P 89 = prog_12_method_60_code := rfl
  have ho : xp_own xm_P 89 = "ExchangeTextModel" := rfl
  have hm : xp_ml xm_P 89 = 2 := rfl
  exact xl_cons (xk_aload_n hc xd_89_0 rfl) <|
    xl_cons (xk_iconst hc xd_89_1 (by decide)) <|
    xl_cons (xk_putfield (C := xm_C9) (T := xm_T9) (N := 25) (ty := xm_ty9) hc xd_89_2 ho rfl (by decide) xm_u9 xm_tk9 rfl xm_nm9 xl_199 rfl) <|
    xl_cons (xk_aload_n hc xd_89_5 rfl) <|
    xl_cons (xk_iload_n hc xd_89_6 rfl) <|
    xl_cons (xk_ifCond hc xd_89_7 (by decide)) <|
    xl_cons (xk_iload_n hc xd_89_10 rfl) <|
    xl_cons (xk_iconst hc xd_89_11 (by decide)) <|
    xl_cons (xk_if_icmp hc xd_89_12 (by decide)) <|
    xl_cons (xk_iconst hc xd_89_15 (by decide)) <|
    xl_cons (xk_goto hc xd_89_16 (by decide)) <|
    xl_cons (xk_iconst hc xd_89_19 (by decide)) <|
    xl_cons (xk_iconst hc xd_89_20 (by decide)) <|
    xl_cons (xk_callV (Y := xm_y32) ho rfl (by decide) ⟨by decide, by decide⟩ xl_202 hc xd_89_21 rfl (b' := 2) rfl xm_nd32 (T := xm_T9) (N := 25) rfl xl_201 xl_203 xl_204) <|
    xl_cons (xk_ifCond hc xd_89_24 (by decide)) <|
    xl_cons (xk_iconst hc xd_89_27 (by decide)) <|
    xl_cons (xk_ireturn hc xd_89_28) <|
    xl_cons (xk_iload_n hc xd_89_29 rfl) <|
    xl_cons (xk_ifCond hc xd_89_30 (by decide)) <|
    xl_cons (xk_aload_n hc xd_89_33 rfl) <|
    xl_cons (xk_getfield (C := xm_C9) (T := xm_T9) (N := 25) hc xd_89_34 ho rfl (by decide) xm_u9 xl_205) <|
    xl_cons (xk_goto hc xd_89_37 (by decide)) <|
    xl_cons (xk_iload_n hc xd_89_40 rfl) <|
    xl_cons (xk_iconst hc xd_89_41 (by decide)) <|
    xl_cons (xk_if_icmp hc xd_89_42 (by decide)) <|
    xl_cons (xk_aload_n hc xd_89_45 rfl) <|
    xl_cons (xk_getfield (C := xm_C9) (T := xm_T9) (N := 25) hc xd_89_46 ho rfl (by decide) xm_u9 xl_180) <|
    xl_cons (xk_iconst hc xd_89_49 (by decide)) <|
    xl_cons (xk_iaload hc xd_89_50) <|
    xl_cons (xk_goto hc xd_89_51 (by decide)) <|
    xl_cons (xk_iload_n hc xd_89_54 rfl) <|
    xl_cons (xk_iconst hc xd_89_55 (by decide)) <|
    xl_cons (xk_if_icmp hc xd_89_56 (by decide)) <|
    xl_cons (xk_aload_n hc xd_89_59 rfl) <|
    xl_cons (xk_getfield (C := xm_C9) (T := xm_T9) (N := 25) hc xd_89_60 ho rfl (by decide) xm_u9 xl_187) <|
    xl_cons (xk_iconst hc xd_89_63 (by decide)) <|
    xl_cons (xk_iaload hc xd_89_64) <|
    xl_cons (xk_goto hc xd_89_65 (by decide)) <|
    xl_cons (xk_aload_n hc xd_89_68 rfl) <|
    xl_cons (xk_getfield (C := xm_C9) (T := xm_T9) (N := 25) hc xd_89_69 ho rfl (by decide) xm_u9 xl_187) (xl_nil)
set_option maxRecDepth 100000 in
theorem xo_89_1 : ∀ e ∈ ([(72, 1, .iconst 2, 0, 0, .int 2, [], none),
  (73, 1, .iaload, 0, 0, .null, [], none),
  (74, 1, .ireturn, 0, 0, .null, [], none)] : List xr_E), xr_sd xm_P 89 e := by
  have hc : xp_cd xm_P 89 = prog_12_method_60_code := rfl
  have ho : xp_own xm_P 89 = "ExchangeTextModel" := rfl
  have hm : xp_ml xm_P 89 = 2 := rfl
  exact xl_cons (xk_iconst hc xd_89_72 (by decide)) <|
    xl_cons (xk_iaload hc xd_89_73) <|
    xl_cons (xk_ireturn hc xd_89_74) (xl_nil)
theorem xo_89 : ∀ e ∈ xm_i89, xr_sd xm_P 89 e := xl_app xo_89_0 (xo_89_1)
set_option maxRecDepth 100000 in
theorem xo_90_0 : ∀ e ∈ ([(0, 1, .aload_n 0, 0, 0, .null, [], none),
  (1, 3, .invokespecial 3, 0, 0, .int 1, [], none),
  (4, 1, .aload_n 0, 0, 0, .null, [], none),
  (5, 2, .bipush 40, 0, 0, .int 40, [], none),
  (7, 2, .newarray .long, 1, 0, .null, [], none),
  (9, 3, .putfield 9, 4, 1, .null, [], none),
  (12, 1, .aload_n 0, 0, 0, .null, [], none),
  (13, 2, .bipush 40, 0, 0, .int 40, [], none),
  (15, 2, .newarray .long, 1, 0, .null, [], none),
  (17, 3, .putfield 15, 4, 2, .null, [], none),
  (20, 1, .aload_n 0, 0, 0, .null, [], none),
  (21, 2, .bipush 40, 0, 0, .int 40, [], none),
  (23, 2, .newarray .int, 0, 0, .null, [], none),
  (25, 3, .putfield 18, 4, 3, .null, [], none),
  (28, 1, .aload_n 0, 0, 0, .null, [], none),
  (29, 3, .new 22, 5, 0, .null, [], none),
  (32, 1, .dup, 0, 0, .null, [], none),
  (33, 3, .sipush 1000, 0, 0, .int 1000, [], none),
  (36, 3, .invokespecial 24, 108, 2, .retAddr 4, [], none),
  (39, 3, .putfield 27, 4, 4, .null, [], none),
  (42, 1, .aload_n 0, 0, 0, .null, [], none),
  (43, 1, .aload_n 1, 1, 0, .null, [], none),
  (44, 3, .putfield 31, 4, 0, .null, [], none),
  (47, 1, .return_, 0, 0, .null, [], none)] : List xr_E), xr_sd xm_P 90 e := by
  have hc : xp_cd xm_P 90 = prog_2_method_1_code := rfl
  have ho : xp_own xm_P 90 = "ExchangeText$Graph" := rfl
  have hm : xp_ml xm_P 90 = 2 := rfl
  exact xl_cons (xk_aload_n hc xd_90_0 rfl) <|
    xl_cons (xk_objInit hc xd_90_1 ho xm_rl90 xl_319 xl_1 xl_2) <|
    xl_cons (xk_aload_n hc xd_90_4 rfl) <|
    xl_cons (xk_bipush hc xd_90_5 (by decide)) <|
    xl_cons (xk_newarray hc xd_90_7 (by decide) rfl xl_197) <|
    xl_cons (xk_putfieldF (C := xm_C4) (T := xm_T4) (N := 6) (ty := xm_ty4) hc xd_90_9 ho rfl (by decide) xm_u4 xm_tk4 rfl xm_nm4 xl_320 rfl rfl rfl) <|
    xl_cons (xk_aload_n hc xd_90_12 rfl) <|
    xl_cons (xk_bipush hc xd_90_13 (by decide)) <|
    xl_cons (xk_newarray hc xd_90_15 (by decide) rfl xl_197) <|
    xl_cons (xk_putfieldF (C := xm_C4) (T := xm_T4) (N := 6) (ty := xm_ty4) hc xd_90_17 ho rfl (by decide) xm_u4 xm_tk4 rfl xm_nm4 xl_321 rfl rfl rfl) <|
    xl_cons (xk_aload_n hc xd_90_20 rfl) <|
    xl_cons (xk_bipush hc xd_90_21 (by decide)) <|
    xl_cons (xk_newarray hc xd_90_23 (by decide) rfl xl_177) <|
    xl_cons (xk_putfieldF (C := xm_C4) (T := xm_T4) (N := 6) (ty := xm_ty4) hc xd_90_25 ho rfl (by decide) xm_u4 xm_tk4 rfl xm_nm4 xl_322 rfl rfl rfl) <|
    xl_cons (xk_aload_n hc xd_90_28 rfl) <|
    xl_cons (xk_new (C := xm_C5) (T := xm_T5) (N := 1) (ty := xm_ty5) hc xd_90_29 ho rfl xm_u5 xm_tk5 rfl (fun _ => rfl) xm_df5 xl_323 xl_29 xl_30) <|
    xl_cons (xk_dup hc xd_90_32) <|
    xl_cons (xk_sipush hc xd_90_33 (by decide)) <|
    xl_cons (xk_callI (Y := xm_y108) ho rfl (by decide) ⟨by decide, by decide⟩ xl_30 hc xd_90_36 rfl rfl (b' := 1) rfl xm_nd108 rfl xl_324 xl_32) <|
    xl_cons (xk_putfieldF (C := xm_C4) (T := xm_T4) (N := 6) (ty := xm_ty4) hc xd_90_39 ho rfl (by decide) xm_u4 xm_tk4 rfl xm_nm4 xl_325 rfl rfl rfl) <|
    xl_cons (xk_aload_n hc xd_90_42 rfl) <|
    xl_cons (xk_aload_n hc xd_90_43 rfl) <|
    xl_cons (xk_putfieldF (C := xm_C4) (T := xm_T4) (N := 6) (ty := xm_ty4) hc xd_90_44 ho rfl (by decide) xm_u4 xm_tk4 rfl xm_nm4 xl_326 rfl rfl rfl) <|
    xl_cons (xk_return_ hc xd_90_47) (xl_nil)
theorem xo_90 : ∀ e ∈ xm_i90, xr_sd xm_P 90 e := xo_90_0
set_option maxRecDepth 100000 in
theorem xo_91_0 : ∀ e ∈ ([(0, 1, .aload_n 0, 0, 0, .null, [], none),
  (1, 1, .iconst 0, 0, 0, .int 0, [], none),
  (2, 3, .putfield 35, 4, 5, .null, [], none),
  (5, 1, .iconst 0, 0, 0, .int 0, [], none),
  (6, 1, .istore_n 1, 1, 0, .null, [], none),
  (7, 1, .iload_n 1, 1, 0, .null, [], none),
  (8, 1, .aload_n 0, 0, 0, .null, [], none),
  (9, 3, .getfield 31, 4, 0, .null, [], none),
  (12, 3, .getfield 39, 3, 1, .null, [], none),
  (15, 3, .if_icmp .ge 48, 63, 0, .null, [], none),
  (18, 1, .aload_n 0, 0, 0, .null, [], none),
  (19, 3, .getfield 31, 4, 0, .null, [], none),
  (22, 1, .iload_n 1, 1, 0, .null, [], none),
  (23, 3, .invokevirtual 45, 113, 2, .retAddr 0, [], none),
  (26, 1, .istore_n 2, 2, 0, .null, [], none),
  (27, 1, .aload_n 0, 0, 0, .null, [], none),
  (28, 3, .getfield 9, 4, 1, .null, [], none),
  (31, 1, .iload_n 2, 2, 0, .null, [], none),
  (32, 1, .aload_n 0, 0, 0, .null, [], none),
  (33, 1, .iload_n 2, 2, 0, .null, [], none),
  (34, 3, .invokevirtual 49, 95, 2, .retAddr 0, [], none),
  (37, 1, .lastore, 0, 0, .null, [], none),
  (38, 1, .aload_n 0, 0, 0, .null, [], none),
  (39, 3, .getfield 15, 4, 2, .null, [], none),
  (42, 1, .iload_n 2, 2, 0, .null, [], none),
  (43, 1, .aload_n 0, 0, 0, .null, [], none),
  (44, 3, .getfield 9, 4, 1, .null, [], none),
  (47, 1, .iload_n 2, 2, 0, .null, [], none),
  (48, 1, .laload, 0, 0, .null, [], none),
  (49, 1, .lastore, 0, 0, .null, [], none),
  (50, 1, .aload_n 0, 0, 0, .null, [], none),
  (51, 3, .getfield 18, 4, 3, .null, [], none),
  (54, 1, .iload_n 2, 2, 0, .null, [], none),
  (55, 1, .iconst (-1), 0, 0, .int (-1), [], none),
  (56, 1, .iastore, 0, 0, .null, [], none),
  (57, 3, .iinc 1 1, 1, 0, .int 1, [], none),
  (60, 3, .goto (-53), 7, 0, .null, [], none),
  (63, 1, .aload_n 0, 0, 0, .null, [], none),
  (64, 3, .invokevirtual 53, 97, 1, .retAddr 0, [], none),
  (67, 1, .aload_n 0, 0, 0, .null, [], none)] : List xr_E), xr_sd xm_P 91 e := by
  have hc : xp_cd xm_P 91 = prog_2_method_2_code := rfl
  have ho : xp_own xm_P 91 = "ExchangeText$Graph" := rfl
  have hm : xp_ml xm_P 91 = 3 := rfl
  exact xl_cons (xk_aload_n hc xd_91_0 rfl) <|
    xl_cons (xk_iconst hc xd_91_1 (by decide)) <|
    xl_cons (xk_putfield (C := xm_C4) (T := xm_T4) (N := 6) (ty := xm_ty4) hc xd_91_2 ho rfl (by decide) xm_u4 xm_tk4 rfl xm_nm4 xl_327 rfl) <|
    xl_cons (xk_iconst hc xd_91_5 (by decide)) <|
    xl_cons (xk_istore_n hc xd_91_6 hm rfl (by decide)) <|
    xl_cons (xk_iload_n hc xd_91_7 rfl) <|
    xl_cons (xk_aload_n hc xd_91_8 rfl) <|
    xl_cons (xk_getfield (C := xm_C4) (T := xm_T4) (N := 6) hc xd_91_9 ho rfl (by decide) xm_u4 xl_326) <|
    xl_cons (xk_getfield (C := xm_C3) (T := xm_T3) (N := 11) hc xd_91_12 ho rfl (by decide) xm_u3 xl_328) <|
    xl_cons (xk_if_icmp hc xd_91_15 (by decide)) <|
    xl_cons (xk_aload_n hc xd_91_18 rfl) <|
    xl_cons (xk_getfield (C := xm_C4) (T := xm_T4) (N := 6) hc xd_91_19 ho rfl (by decide) xm_u4 xl_326) <|
    xl_cons (xk_iload_n hc xd_91_22 rfl) <|
    xl_cons (xk_callV (Y := xm_y113) ho rfl (by decide) ⟨by decide, by decide⟩ xl_17 hc xd_91_23 rfl (b' := 1) rfl xm_nd113 (T := xm_T3) (N := 11) rfl xl_329 xl_94 xl_95) <|
    xl_cons (xk_istore_n hc xd_91_26 hm rfl (by decide)) <|
    xl_cons (xk_aload_n hc xd_91_27 rfl) <|
    xl_cons (xk_getfield (C := xm_C4) (T := xm_T4) (N := 6) hc xd_91_28 ho rfl (by decide) xm_u4 xl_320) <|
    xl_cons (xk_iload_n hc xd_91_31 rfl) <|
    xl_cons (xk_aload_n hc xd_91_32 rfl) <|
    xl_cons (xk_iload_n hc xd_91_33 rfl) <|
    xl_cons (xk_callV (Y := xm_y95) ho rfl (by decide) ⟨by decide, by decide⟩ xl_24 hc xd_91_34 rfl (b' := 1) rfl xm_nd95 (T := xm_T4) (N := 6) rfl xl_330 xl_331 xl_332) <|
    xl_cons (xk_lastore hc xd_91_37) <|
    xl_cons (xk_aload_n hc xd_91_38 rfl) <|
    xl_cons (xk_getfield (C := xm_C4) (T := xm_T4) (N := 6) hc xd_91_39 ho rfl (by decide) xm_u4 xl_321) <|
    xl_cons (xk_iload_n hc xd_91_42 rfl) <|
    xl_cons (xk_aload_n hc xd_91_43 rfl) <|
    xl_cons (xk_getfield (C := xm_C4) (T := xm_T4) (N := 6) hc xd_91_44 ho rfl (by decide) xm_u4 xl_320) <|
    xl_cons (xk_iload_n hc xd_91_47 rfl) <|
    xl_cons (xk_laload hc xd_91_48) <|
    xl_cons (xk_lastore hc xd_91_49) <|
    xl_cons (xk_aload_n hc xd_91_50 rfl) <|
    xl_cons (xk_getfield (C := xm_C4) (T := xm_T4) (N := 6) hc xd_91_51 ho rfl (by decide) xm_u4 xl_322) <|
    xl_cons (xk_iload_n hc xd_91_54 rfl) <|
    xl_cons (xk_iconst hc xd_91_55 (by decide)) <|
    xl_cons (xk_iastore hc xd_91_56) <|
    xl_cons (xk_iinc hc xd_91_57 hm rfl (by decide) (by decide)) <|
    xl_cons (xk_goto hc xd_91_60 (by decide)) <|
    xl_cons (xk_aload_n hc xd_91_63 rfl) <|
    xl_cons (xk_callV (Y := xm_y97) ho rfl (by decide) ⟨by decide, by decide⟩ xl_24 hc xd_91_64 rfl (b' := 0) rfl xm_nd97 (T := xm_T4) (N := 6) rfl xl_333 xl_334 xl_335) <|
    xl_cons (xk_aload_n hc xd_91_67 rfl) (xl_nil)
set_option maxRecDepth 100000 in
theorem xo_91_1 : ∀ e ∈ ([(68, 3, .invokevirtual 56, 98, 1, .retAddr 0, [], none),
  (71, 1, .return_, 0, 0, .null, [], none)] : List xr_E), xr_sd xm_P 91 e := by
  have hc : xp_cd xm_P 91 = prog_2_method_2_code := rfl
  have ho : xp_own xm_P 91 = "ExchangeText$Graph" := rfl
  have hm : xp_ml xm_P 91 = 3 := rfl
  exact xl_cons (xk_callV (Y := xm_y98) ho rfl (by decide) ⟨by decide, by decide⟩ xl_24 hc xd_91_68 rfl (b' := 0) rfl xm_nd98 (T := xm_T4) (N := 6) rfl xl_336 xl_337 xl_338) <|
    xl_cons (xk_return_ hc xd_91_71) (xl_nil)
theorem xo_91 : ∀ e ∈ xm_i91, xr_sd xm_P 91 e := xl_app xo_91_0 (xo_91_1)
set_option maxRecDepth 100000 in
theorem xo_92_0 : ∀ e ∈ ([(0, 1, .aload_n 0, 0, 0, .null, [], none),
  (1, 1, .iconst 0, 0, 0, .int 0, [], none),
  (2, 3, .putfield 35, 4, 5, .null, [], none),
  (5, 1, .return_, 0, 0, .null, [], none)] : List xr_E), xr_sd xm_P 92 e := by
  have hc : xp_cd xm_P 92 = prog_2_method_3_code := rfl
  have ho : xp_own xm_P 92 = "ExchangeText$Graph" := rfl
  have hm : xp_ml xm_P 92 = 1 := rfl
  exact xl_cons (xk_aload_n hc xd_92_0 rfl) <|
    xl_cons (xk_iconst hc xd_92_1 (by decide)) <|
    xl_cons (xk_putfield (C := xm_C4) (T := xm_T4) (N := 6) (ty := xm_ty4) hc xd_92_2 ho rfl (by decide) xm_u4 xm_tk4 rfl xm_nm4 xl_327 rfl) <|
    xl_cons (xk_return_ hc xd_92_5) (xl_nil)
theorem xo_92 : ∀ e ∈ xm_i92, xr_sd xm_P 92 e := xo_92_0
set_option maxRecDepth 100000 in
theorem xo_93_0 : ∀ e ∈ ([(0, 1, .aload_n 0, 0, 0, .null, [], none),
  (1, 3, .getfield 9, 4, 1, .null, [], none),
  (4, 1, .iload_n 1, 1, 0, .null, [], none),
  (5, 1, .laload, 0, 0, .null, [], none),
  (6, 1, .iload_n 2, 2, 0, .null, [], none),
  (7, 1, .lushr, 0, 0, .null, [], none),
  (8, 1, .lconst 1, 0, 0, .long 1, [], none),
  (9, 1, .land, 0, 0, .null, [], none),
  (10, 1, .lconst 0, 0, 0, .long 0, [], none),
  (11, 1, .lcmp, 0, 0, .null, [], none),
  (12, 3, .ifCond .eq 7, 19, 0, .null, [], none),
  (15, 1, .iconst 1, 0, 0, .int 1, [], none),
  (16, 3, .goto 4, 20, 0, .null, [], none),
  (19, 1, .iconst 0, 0, 0, .int 0, [], none),
  (20, 1, .ireturn, 0, 0, .null, [], none)] : List xr_E), xr_sd xm_P 93 e := by
  have hc : xp_cd xm_P 93 = prog_2_method_4_code := rfl
  have ho : xp_own xm_P 93 = "ExchangeText$Graph" := rfl
  have hm : xp_ml xm_P 93 = 3 := rfl
  exact xl_cons (xk_aload_n hc xd_93_0 rfl) <|
    xl_cons (xk_getfield (C := xm_C4) (T := xm_T4) (N := 6) hc xd_93_1 ho rfl (by decide) xm_u4 xl_320) <|
    xl_cons (xk_iload_n hc xd_93_4 rfl) <|
    xl_cons (xk_laload hc xd_93_5) <|
    xl_cons (xk_iload_n hc xd_93_6 rfl) <|
    xl_cons (xk_lushr hc xd_93_7) <|
    xl_cons (xk_lconst hc xd_93_8 rfl) <|
    xl_cons (xk_land hc xd_93_9) <|
    xl_cons (xk_lconst hc xd_93_10 rfl) <|
    xl_cons (xk_lcmp hc xd_93_11) <|
    xl_cons (xk_ifCond hc xd_93_12 (by decide)) <|
    xl_cons (xk_iconst hc xd_93_15 (by decide)) <|
    xl_cons (xk_goto hc xd_93_16 (by decide)) <|
    xl_cons (xk_iconst hc xd_93_19 (by decide)) <|
    xl_cons (xk_ireturn hc xd_93_20) (xl_nil)
theorem xo_93 : ∀ e ∈ xm_i93, xr_sd xm_P 93 e := xo_93_0
set_option maxRecDepth 100000 in
theorem xo_94_0 : ∀ e ∈ ([(0, 1, .aload_n 0, 0, 0, .null, [], none),
  (1, 3, .getfield 15, 4, 2, .null, [], none),
  (4, 1, .iload_n 1, 1, 0, .null, [], none),
  (5, 1, .laload, 0, 0, .null, [], none),
  (6, 1, .iload_n 1, 1, 0, .null, [], none),
  (7, 1, .lushr, 0, 0, .null, [], none),
  (8, 1, .lconst 1, 0, 0, .long 1, [], none),
  (9, 1, .land, 0, 0, .null, [], none),
  (10, 1, .lconst 0, 0, 0, .long 0, [], none),
  (11, 1, .lcmp, 0, 0, .null, [], none),
  (12, 3, .ifCond .eq 7, 19, 0, .null, [], none),
  (15, 1, .iconst 1, 0, 0, .int 1, [], none),
  (16, 3, .goto 4, 20, 0, .null, [], none),
  (19, 1, .iconst 0, 0, 0, .int 0, [], none),
  (20, 1, .ireturn, 0, 0, .null, [], none)] : List xr_E), xr_sd xm_P 94 e := by
  have hc : xp_cd xm_P 94 = prog_2_method_5_code := rfl
  have ho : xp_own xm_P 94 = "ExchangeText$Graph" := rfl
  have hm : xp_ml xm_P 94 = 2 := rfl
  exact xl_cons (xk_aload_n hc xd_94_0 rfl) <|
    xl_cons (xk_getfield (C := xm_C4) (T := xm_T4) (N := 6) hc xd_94_1 ho rfl (by decide) xm_u4 xl_321) <|
    xl_cons (xk_iload_n hc xd_94_4 rfl) <|
    xl_cons (xk_laload hc xd_94_5) <|
    xl_cons (xk_iload_n hc xd_94_6 rfl) <|
    xl_cons (xk_lushr hc xd_94_7) <|
    xl_cons (xk_lconst hc xd_94_8 rfl) <|
    xl_cons (xk_land hc xd_94_9) <|
    xl_cons (xk_lconst hc xd_94_10 rfl) <|
    xl_cons (xk_lcmp hc xd_94_11) <|
    xl_cons (xk_ifCond hc xd_94_12 (by decide)) <|
    xl_cons (xk_iconst hc xd_94_15 (by decide)) <|
    xl_cons (xk_goto hc xd_94_16 (by decide)) <|
    xl_cons (xk_iconst hc xd_94_19 (by decide)) <|
    xl_cons (xk_ireturn hc xd_94_20) (xl_nil)
theorem xo_94 : ∀ e ∈ xm_i94, xr_sd xm_P 94 e := xo_94_0
set_option maxRecDepth 100000 in
theorem xo_95_0 : ∀ e ∈ ([(0, 1, .lconst 0, 0, 0, .long 0, [], none),
  (1, 1, .lstore_n 2, 2, 0, .null, [], none),
  (2, 1, .iconst 0, 0, 0, .int 0, [], none),
  (3, 2, .istore 4, 4, 0, .null, [], none),
  (5, 2, .iload 4, 4, 0, .null, [], none),
  (7, 1, .aload_n 0, 0, 0, .null, [], none),
  (8, 3, .getfield 31, 4, 0, .null, [], none),
  (11, 3, .getfield 59, 3, 5, .null, [], none),
  (14, 1, .iload_n 1, 1, 0, .null, [], none),
  (15, 1, .iaload, 0, 0, .null, [], none),
  (16, 3, .if_icmp .ge 108, 124, 0, .null, [], none),
  (19, 1, .iload_n 1, 1, 0, .null, [], none),
  (20, 2, .bipush 8, 0, 0, .int 8, [], none),
  (22, 1, .imul, 0, 0, .null, [], none),
  (23, 2, .iload 4, 4, 0, .null, [], none),
  (25, 1, .iadd, 0, 0, .null, [], none),
  (26, 2, .istore 5, 5, 0, .null, [], none),
  (28, 1, .aload_n 0, 0, 0, .null, [], none),
  (29, 3, .getfield 31, 4, 0, .null, [], none),
  (32, 3, .getfield 62, 3, 7, .null, [], none),
  (35, 2, .iload 5, 5, 0, .null, [], none),
  (37, 1, .iaload, 0, 0, .null, [], none),
  (38, 1, .iconst 2, 0, 0, .int 2, [], none),
  (39, 3, .if_icmp .ne 23, 62, 0, .null, [], none),
  (42, 1, .lload_n 2, 2, 0, .null, [], none),
  (43, 1, .aload_n 0, 0, 0, .null, [], none),
  (44, 1, .aload_n 0, 0, 0, .null, [], none),
  (45, 3, .getfield 31, 4, 0, .null, [], none),
  (48, 3, .getfield 65, 3, 8, .null, [], none),
  (51, 2, .iload 5, 5, 0, .null, [], none),
  (53, 1, .iaload, 0, 0, .null, [], none),
  (54, 3, .invokevirtual 68, 96, 2, .retAddr 0, [], none),
  (57, 1, .lor, 0, 0, .null, [], none),
  (58, 1, .lstore_n 2, 2, 0, .null, [], none),
  (59, 3, .goto 59, 118, 0, .null, [], none),
  (62, 1, .aload_n 0, 0, 0, .null, [], none),
  (63, 3, .getfield 31, 4, 0, .null, [], none),
  (66, 3, .getfield 62, 3, 7, .null, [], none),
  (69, 2, .iload 5, 5, 0, .null, [], none),
  (71, 1, .iaload, 0, 0, .null, [], none)] : List xr_E), xr_sd xm_P 95 e := by
  have hc : xp_cd xm_P 95 = prog_2_method_6_code := rfl
  have ho : xp_own xm_P 95 = "ExchangeText$Graph" := rfl
  have hm : xp_ml xm_P 95 = 7 := rfl
  exact xl_cons (xk_lconst hc xd_95_0 rfl) <|
    xl_cons (xk_lstore_n hc xd_95_1 hm rfl (by decide)) <|
    xl_cons (xk_iconst hc xd_95_2 (by decide)) <|
    xl_cons (xk_istore hc xd_95_3 hm rfl (by decide)) <|
    xl_cons (xk_iload hc xd_95_5 rfl) <|
    xl_cons (xk_aload_n hc xd_95_7 rfl) <|
    xl_cons (xk_getfield (C := xm_C4) (T := xm_T4) (N := 6) hc xd_95_8 ho rfl (by decide) xm_u4 xl_326) <|
    xl_cons (xk_getfield (C := xm_C3) (T := xm_T3) (N := 11) hc xd_95_11 ho rfl (by decide) xm_u3 xl_339) <|
    xl_cons (xk_iload_n hc xd_95_14 rfl) <|
    xl_cons (xk_iaload hc xd_95_15) <|
    xl_cons (xk_if_icmp hc xd_95_16 (by decide)) <|
    xl_cons (xk_iload_n hc xd_95_19 rfl) <|
    xl_cons (xk_bipush hc xd_95_20 (by decide)) <|
    xl_cons (xk_imul hc xd_95_22) <|
    xl_cons (xk_iload hc xd_95_23 rfl) <|
    xl_cons (xk_iadd hc xd_95_25) <|
    xl_cons (xk_istore hc xd_95_26 hm rfl (by decide)) <|
    xl_cons (xk_aload_n hc xd_95_28 rfl) <|
    xl_cons (xk_getfield (C := xm_C4) (T := xm_T4) (N := 6) hc xd_95_29 ho rfl (by decide) xm_u4 xl_326) <|
    xl_cons (xk_getfield (C := xm_C3) (T := xm_T3) (N := 11) hc xd_95_32 ho rfl (by decide) xm_u3 xl_340) <|
    xl_cons (xk_iload hc xd_95_35 rfl) <|
    xl_cons (xk_iaload hc xd_95_37) <|
    xl_cons (xk_iconst hc xd_95_38 (by decide)) <|
    xl_cons (xk_if_icmp hc xd_95_39 (by decide)) <|
    xl_cons (xk_lload_n hc xd_95_42 rfl) <|
    xl_cons (xk_aload_n hc xd_95_43 rfl) <|
    xl_cons (xk_aload_n hc xd_95_44 rfl) <|
    xl_cons (xk_getfield (C := xm_C4) (T := xm_T4) (N := 6) hc xd_95_45 ho rfl (by decide) xm_u4 xl_326) <|
    xl_cons (xk_getfield (C := xm_C3) (T := xm_T3) (N := 11) hc xd_95_48 ho rfl (by decide) xm_u3 xl_341) <|
    xl_cons (xk_iload hc xd_95_51 rfl) <|
    xl_cons (xk_iaload hc xd_95_53) <|
    xl_cons (xk_callV (Y := xm_y96) ho rfl (by decide) ⟨by decide, by decide⟩ xl_24 hc xd_95_54 rfl (b' := 1) rfl xm_nd96 (T := xm_T4) (N := 6) rfl xl_342 xl_343 xl_344) <|
    xl_cons (xk_lor hc xd_95_57) <|
    xl_cons (xk_lstore_n hc xd_95_58 hm rfl (by decide)) <|
    xl_cons (xk_goto hc xd_95_59 (by decide)) <|
    xl_cons (xk_aload_n hc xd_95_62 rfl) <|
    xl_cons (xk_getfield (C := xm_C4) (T := xm_T4) (N := 6) hc xd_95_63 ho rfl (by decide) xm_u4 xl_326) <|
    xl_cons (xk_getfield (C := xm_C3) (T := xm_T3) (N := 11) hc xd_95_66 ho rfl (by decide) xm_u3 xl_340) <|
    xl_cons (xk_iload hc xd_95_69 rfl) <|
    xl_cons (xk_iaload hc xd_95_71) (xl_nil)
set_option maxRecDepth 100000 in
theorem xo_95_1 : ∀ e ∈ ([(72, 1, .iconst 4, 0, 0, .int 4, [], none),
  (73, 3, .if_icmp .ne 45, 118, 0, .null, [], none),
  (76, 1, .iconst 0, 0, 0, .int 0, [], none),
  (77, 2, .istore 6, 6, 0, .null, [], none),
  (79, 2, .iload 6, 6, 0, .null, [], none),
  (81, 1, .aload_n 0, 0, 0, .null, [], none),
  (82, 3, .getfield 31, 4, 0, .null, [], none),
  (85, 3, .getfield 65, 3, 8, .null, [], none),
  (88, 2, .iload 5, 5, 0, .null, [], none),
  (90, 1, .iaload, 0, 0, .null, [], none),
  (91, 3, .if_icmp .ge 27, 118, 0, .null, [], none),
  (94, 1, .lload_n 2, 2, 0, .null, [], none),
  (95, 1, .aload_n 0, 0, 0, .null, [], none),
  (96, 1, .aload_n 0, 0, 0, .null, [], none),
  (97, 3, .getfield 31, 4, 0, .null, [], none),
  (100, 2, .iload 5, 5, 0, .null, [], none),
  (102, 2, .iload 6, 6, 0, .null, [], none),
  (104, 3, .invokevirtual 71, 120, 3, .retAddr 0, [], none),
  (107, 3, .invokevirtual 68, 96, 2, .retAddr 0, [], none),
  (110, 1, .lor, 0, 0, .null, [], none),
  (111, 1, .lstore_n 2, 2, 0, .null, [], none),
  (112, 3, .iinc 6 1, 6, 0, .int 1, [], none),
  (115, 3, .goto (-36), 79, 0, .null, [], none),
  (118, 3, .iinc 4 1, 4, 0, .int 1, [], none),
  (121, 3, .goto (-116), 5, 0, .null, [], none),
  (124, 1, .lload_n 2, 2, 0, .null, [], none),
  (125, 1, .lreturn, 0, 0, .null, [], none)] : List xr_E), xr_sd xm_P 95 e := by
  have hc : xp_cd xm_P 95 = prog_2_method_6_code := rfl
  have ho : xp_own xm_P 95 = "ExchangeText$Graph" := rfl
  have hm : xp_ml xm_P 95 = 7 := rfl
  exact xl_cons (xk_iconst hc xd_95_72 (by decide)) <|
    xl_cons (xk_if_icmp hc xd_95_73 (by decide)) <|
    xl_cons (xk_iconst hc xd_95_76 (by decide)) <|
    xl_cons (xk_istore hc xd_95_77 hm rfl (by decide)) <|
    xl_cons (xk_iload hc xd_95_79 rfl) <|
    xl_cons (xk_aload_n hc xd_95_81 rfl) <|
    xl_cons (xk_getfield (C := xm_C4) (T := xm_T4) (N := 6) hc xd_95_82 ho rfl (by decide) xm_u4 xl_326) <|
    xl_cons (xk_getfield (C := xm_C3) (T := xm_T3) (N := 11) hc xd_95_85 ho rfl (by decide) xm_u3 xl_341) <|
    xl_cons (xk_iload hc xd_95_88 rfl) <|
    xl_cons (xk_iaload hc xd_95_90) <|
    xl_cons (xk_if_icmp hc xd_95_91 (by decide)) <|
    xl_cons (xk_lload_n hc xd_95_94 rfl) <|
    xl_cons (xk_aload_n hc xd_95_95 rfl) <|
    xl_cons (xk_aload_n hc xd_95_96 rfl) <|
    xl_cons (xk_getfield (C := xm_C4) (T := xm_T4) (N := 6) hc xd_95_97 ho rfl (by decide) xm_u4 xl_326) <|
    xl_cons (xk_iload hc xd_95_100 rfl) <|
    xl_cons (xk_iload hc xd_95_102 rfl) <|
    xl_cons (xk_callV (Y := xm_y120) ho rfl (by decide) ⟨by decide, by decide⟩ xl_17 hc xd_95_104 rfl (b' := 2) rfl xm_nd120 (T := xm_T3) (N := 11) rfl xl_345 xl_127 xl_128) <|
    xl_cons (xk_callV (Y := xm_y96) ho rfl (by decide) ⟨by decide, by decide⟩ xl_24 hc xd_95_107 rfl (b' := 1) rfl xm_nd96 (T := xm_T4) (N := 6) rfl xl_342 xl_343 xl_344) <|
    xl_cons (xk_lor hc xd_95_110) <|
    xl_cons (xk_lstore_n hc xd_95_111 hm rfl (by decide)) <|
    xl_cons (xk_iinc hc xd_95_112 hm rfl (by decide) (by decide)) <|
    xl_cons (xk_goto hc xd_95_115 (by decide)) <|
    xl_cons (xk_iinc hc xd_95_118 hm rfl (by decide) (by decide)) <|
    xl_cons (xk_goto hc xd_95_121 (by decide)) <|
    xl_cons (xk_lload_n hc xd_95_124 rfl) <|
    xl_cons (xk_lreturn hc xd_95_125) (xl_nil)
theorem xo_95 : ∀ e ∈ xm_i95, xr_sd xm_P 95 e := xl_app xo_95_0 (xo_95_1)
set_option maxRecDepth 100000 in
theorem xo_96_0 : ∀ e ∈ ([(0, 1, .aload_n 0, 0, 0, .null, [], none),
  (1, 3, .getfield 31, 4, 0, .null, [], none),
  (4, 1, .iload_n 1, 1, 0, .null, [], none),
  (5, 3, .invokevirtual 75, 114, 2, .retAddr 0, [], none),
  (8, 1, .istore_n 2, 2, 0, .null, [], none),
  (9, 1, .iload_n 2, 2, 0, .null, [], none),
  (10, 1, .iconst (-1), 0, 0, .int (-1), [], none),
  (11, 3, .if_icmp .ne 7, 18, 0, .null, [], none),
  (14, 1, .lconst 0, 0, 0, .long 0, [], none),
  (15, 3, .goto 6, 21, 0, .null, [], none),
  (18, 1, .lconst 1, 0, 0, .long 1, [], none),
  (19, 1, .iload_n 2, 2, 0, .null, [], none),
  (20, 1, .lshl, 0, 0, .null, [], none),
  (21, 1, .lreturn, 0, 0, .null, [], none)] : List xr_E), xr_sd xm_P 96 e := by
  have hc : xp_cd xm_P 96 = prog_2_method_7_code := rfl
  have ho : xp_own xm_P 96 = "ExchangeText$Graph" := rfl
  have hm : xp_ml xm_P 96 = 3 := rfl
  exact xl_cons (xk_aload_n hc xd_96_0 rfl) <|
    xl_cons (xk_getfield (C := xm_C4) (T := xm_T4) (N := 6) hc xd_96_1 ho rfl (by decide) xm_u4 xl_326) <|
    xl_cons (xk_iload_n hc xd_96_4 rfl) <|
    xl_cons (xk_callV (Y := xm_y114) ho rfl (by decide) ⟨by decide, by decide⟩ xl_17 hc xd_96_5 rfl (b' := 1) rfl xm_nd114 (T := xm_T3) (N := 11) rfl xl_346 xl_167 xl_168) <|
    xl_cons (xk_istore_n hc xd_96_8 hm rfl (by decide)) <|
    xl_cons (xk_iload_n hc xd_96_9 rfl) <|
    xl_cons (xk_iconst hc xd_96_10 (by decide)) <|
    xl_cons (xk_if_icmp hc xd_96_11 (by decide)) <|
    xl_cons (xk_lconst hc xd_96_14 rfl) <|
    xl_cons (xk_goto hc xd_96_15 (by decide)) <|
    xl_cons (xk_lconst hc xd_96_18 rfl) <|
    xl_cons (xk_iload_n hc xd_96_19 rfl) <|
    xl_cons (xk_lshl hc xd_96_20) <|
    xl_cons (xk_lreturn hc xd_96_21) (xl_nil)
theorem xo_96 : ∀ e ∈ xm_i96, xr_sd xm_P 96 e := xo_96_0
set_option maxRecDepth 100000 in
theorem xo_97_0 : ∀ e ∈ ([(0, 1, .iconst 0, 0, 0, .int 0, [], none),
  (1, 1, .istore_n 1, 1, 0, .null, [], none),
  (2, 1, .iload_n 1, 1, 0, .null, [], none),
  (3, 1, .aload_n 0, 0, 0, .null, [], none),
  (4, 3, .getfield 31, 4, 0, .null, [], none),
  (7, 3, .getfield 39, 3, 1, .null, [], none),
  (10, 3, .if_icmp .ge 79, 89, 0, .null, [], none),
  (13, 1, .aload_n 0, 0, 0, .null, [], none),
  (14, 3, .getfield 31, 4, 0, .null, [], none),
  (17, 1, .iload_n 1, 1, 0, .null, [], none),
  (18, 3, .invokevirtual 45, 113, 2, .retAddr 0, [], none),
  (21, 1, .istore_n 2, 2, 0, .null, [], none),
  (22, 1, .iconst 0, 0, 0, .int 0, [], none),
  (23, 1, .istore_n 3, 3, 0, .null, [], none),
  (24, 1, .iload_n 3, 3, 0, .null, [], none),
  (25, 1, .aload_n 0, 0, 0, .null, [], none),
  (26, 3, .getfield 31, 4, 0, .null, [], none),
  (29, 3, .getfield 39, 3, 1, .null, [], none),
  (32, 3, .if_icmp .ge 51, 83, 0, .null, [], none),
  (35, 1, .aload_n 0, 0, 0, .null, [], none),
  (36, 3, .getfield 31, 4, 0, .null, [], none),
  (39, 1, .iload_n 3, 3, 0, .null, [], none),
  (40, 3, .invokevirtual 45, 113, 2, .retAddr 0, [], none),
  (43, 2, .istore 4, 4, 0, .null, [], none),
  (45, 1, .aload_n 0, 0, 0, .null, [], none),
  (46, 3, .getfield 15, 4, 2, .null, [], none),
  (49, 2, .iload 4, 4, 0, .null, [], none),
  (51, 1, .laload, 0, 0, .null, [], none),
  (52, 1, .iload_n 2, 2, 0, .null, [], none),
  (53, 1, .lushr, 0, 0, .null, [], none),
  (54, 1, .lconst 1, 0, 0, .long 1, [], none),
  (55, 1, .land, 0, 0, .null, [], none),
  (56, 1, .lconst 0, 0, 0, .long 0, [], none),
  (57, 1, .lcmp, 0, 0, .null, [], none),
  (58, 3, .ifCond .eq 19, 77, 0, .null, [], none),
  (61, 1, .aload_n 0, 0, 0, .null, [], none),
  (62, 3, .getfield 15, 4, 2, .null, [], none),
  (65, 2, .iload 4, 4, 0, .null, [], none),
  (67, 1, .dup2, 0, 0, .null, [], none),
  (68, 1, .laload, 0, 0, .null, [], none)] : List xr_E), xr_sd xm_P 97 e := by
  have hc : xp_cd xm_P 97 = prog_2_method_8_code := rfl
  have ho : xp_own xm_P 97 = "ExchangeText$Graph" := rfl
  have hm : xp_ml xm_P 97 = 5 := rfl
  exact xl_cons (xk_iconst hc xd_97_0 (by decide)) <|
    xl_cons (xk_istore_n hc xd_97_1 hm rfl (by decide)) <|
    xl_cons (xk_iload_n hc xd_97_2 rfl) <|
    xl_cons (xk_aload_n hc xd_97_3 rfl) <|
    xl_cons (xk_getfield (C := xm_C4) (T := xm_T4) (N := 6) hc xd_97_4 ho rfl (by decide) xm_u4 xl_326) <|
    xl_cons (xk_getfield (C := xm_C3) (T := xm_T3) (N := 11) hc xd_97_7 ho rfl (by decide) xm_u3 xl_328) <|
    xl_cons (xk_if_icmp hc xd_97_10 (by decide)) <|
    xl_cons (xk_aload_n hc xd_97_13 rfl) <|
    xl_cons (xk_getfield (C := xm_C4) (T := xm_T4) (N := 6) hc xd_97_14 ho rfl (by decide) xm_u4 xl_326) <|
    xl_cons (xk_iload_n hc xd_97_17 rfl) <|
    xl_cons (xk_callV (Y := xm_y113) ho rfl (by decide) ⟨by decide, by decide⟩ xl_17 hc xd_97_18 rfl (b' := 1) rfl xm_nd113 (T := xm_T3) (N := 11) rfl xl_329 xl_94 xl_95) <|
    xl_cons (xk_istore_n hc xd_97_21 hm rfl (by decide)) <|
    xl_cons (xk_iconst hc xd_97_22 (by decide)) <|
    xl_cons (xk_istore_n hc xd_97_23 hm rfl (by decide)) <|
    xl_cons (xk_iload_n hc xd_97_24 rfl) <|
    xl_cons (xk_aload_n hc xd_97_25 rfl) <|
    xl_cons (xk_getfield (C := xm_C4) (T := xm_T4) (N := 6) hc xd_97_26 ho rfl (by decide) xm_u4 xl_326) <|
    xl_cons (xk_getfield (C := xm_C3) (T := xm_T3) (N := 11) hc xd_97_29 ho rfl (by decide) xm_u3 xl_328) <|
    xl_cons (xk_if_icmp hc xd_97_32 (by decide)) <|
    xl_cons (xk_aload_n hc xd_97_35 rfl) <|
    xl_cons (xk_getfield (C := xm_C4) (T := xm_T4) (N := 6) hc xd_97_36 ho rfl (by decide) xm_u4 xl_326) <|
    xl_cons (xk_iload_n hc xd_97_39 rfl) <|
    xl_cons (xk_callV (Y := xm_y113) ho rfl (by decide) ⟨by decide, by decide⟩ xl_17 hc xd_97_40 rfl (b' := 1) rfl xm_nd113 (T := xm_T3) (N := 11) rfl xl_329 xl_94 xl_95) <|
    xl_cons (xk_istore hc xd_97_43 hm rfl (by decide)) <|
    xl_cons (xk_aload_n hc xd_97_45 rfl) <|
    xl_cons (xk_getfield (C := xm_C4) (T := xm_T4) (N := 6) hc xd_97_46 ho rfl (by decide) xm_u4 xl_321) <|
    xl_cons (xk_iload hc xd_97_49 rfl) <|
    xl_cons (xk_laload hc xd_97_51) <|
    xl_cons (xk_iload_n hc xd_97_52 rfl) <|
    xl_cons (xk_lushr hc xd_97_53) <|
    xl_cons (xk_lconst hc xd_97_54 rfl) <|
    xl_cons (xk_land hc xd_97_55) <|
    xl_cons (xk_lconst hc xd_97_56 rfl) <|
    xl_cons (xk_lcmp hc xd_97_57) <|
    xl_cons (xk_ifCond hc xd_97_58 (by decide)) <|
    xl_cons (xk_aload_n hc xd_97_61 rfl) <|
    xl_cons (xk_getfield (C := xm_C4) (T := xm_T4) (N := 6) hc xd_97_62 ho rfl (by decide) xm_u4 xl_321) <|
    xl_cons (xk_iload hc xd_97_65 rfl) <|
    xl_cons (xk_dup2 hc xd_97_67) <|
    xl_cons (xk_laload hc xd_97_68) (xl_nil)
set_option maxRecDepth 100000 in
theorem xo_97_1 : ∀ e ∈ ([(69, 1, .aload_n 0, 0, 0, .null, [], none),
  (70, 3, .getfield 15, 4, 2, .null, [], none),
  (73, 1, .iload_n 2, 2, 0, .null, [], none),
  (74, 1, .laload, 0, 0, .null, [], none),
  (75, 1, .lor, 0, 0, .null, [], none),
  (76, 1, .lastore, 0, 0, .null, [], none),
  (77, 3, .iinc 3 1, 3, 0, .int 1, [], none),
  (80, 3, .goto (-56), 24, 0, .null, [], none),
  (83, 3, .iinc 1 1, 1, 0, .int 1, [], none),
  (86, 3, .goto (-84), 2, 0, .null, [], none),
  (89, 1, .return_, 0, 0, .null, [], none)] : List xr_E), xr_sd xm_P 97 e := by
  have hc : xp_cd xm_P 97 = prog_2_method_8_code := rfl
  have ho : xp_own xm_P 97 = "ExchangeText$Graph" := rfl
  have hm : xp_ml xm_P 97 = 5 := rfl
  exact xl_cons (xk_aload_n hc xd_97_69 rfl) <|
    xl_cons (xk_getfield (C := xm_C4) (T := xm_T4) (N := 6) hc xd_97_70 ho rfl (by decide) xm_u4 xl_321) <|
    xl_cons (xk_iload_n hc xd_97_73 rfl) <|
    xl_cons (xk_laload hc xd_97_74) <|
    xl_cons (xk_lor hc xd_97_75) <|
    xl_cons (xk_lastore hc xd_97_76) <|
    xl_cons (xk_iinc hc xd_97_77 hm rfl (by decide) (by decide)) <|
    xl_cons (xk_goto hc xd_97_80 (by decide)) <|
    xl_cons (xk_iinc hc xd_97_83 hm rfl (by decide) (by decide)) <|
    xl_cons (xk_goto hc xd_97_86 (by decide)) <|
    xl_cons (xk_return_ hc xd_97_89) (xl_nil)
theorem xo_97 : ∀ e ∈ xm_i97, xr_sd xm_P 97 e := xl_app xo_97_0 (xo_97_1)
set_option maxRecDepth 100000 in
theorem xo_98_0 : ∀ e ∈ ([(0, 1, .lconst 0, 0, 0, .long 0, [], none),
  (1, 1, .lstore_n 1, 1, 0, .null, [], none),
  (2, 1, .iconst 1, 0, 0, .int 1, [], none),
  (3, 1, .istore_n 3, 3, 0, .null, [], none),
  (4, 1, .iconst 0, 0, 0, .int 0, [], none),
  (5, 2, .istore 4, 4, 0, .null, [], none),
  (7, 2, .iload 4, 4, 0, .null, [], none),
  (9, 2, .bipush 40, 0, 0, .int 40, [], none),
  (11, 3, .if_icmp .ge 105, 116, 0, .null, [], none),
  (14, 1, .iload_n 3, 3, 0, .null, [], none),
  (15, 3, .ifCond .eq 101, 116, 0, .null, [], none),
  (18, 1, .iconst 0, 0, 0, .int 0, [], none),
  (19, 1, .istore_n 3, 3, 0, .null, [], none),
  (20, 1, .iconst 0, 0, 0, .int 0, [], none),
  (21, 2, .istore 5, 5, 0, .null, [], none),
  (23, 2, .iload 5, 5, 0, .null, [], none),
  (25, 1, .aload_n 0, 0, 0, .null, [], none),
  (26, 3, .getfield 31, 4, 0, .null, [], none),
  (29, 3, .getfield 39, 3, 1, .null, [], none),
  (32, 3, .if_icmp .ge 78, 110, 0, .null, [], none),
  (35, 1, .aload_n 0, 0, 0, .null, [], none),
  (36, 3, .getfield 31, 4, 0, .null, [], none),
  (39, 2, .iload 5, 5, 0, .null, [], none),
  (41, 3, .invokevirtual 45, 113, 2, .retAddr 0, [], none),
  (44, 2, .istore 6, 6, 0, .null, [], none),
  (46, 1, .aload_n 0, 0, 0, .null, [], none),
  (47, 3, .getfield 18, 4, 3, .null, [], none),
  (50, 2, .iload 6, 6, 0, .null, [], none),
  (52, 1, .iaload, 0, 0, .null, [], none),
  (53, 1, .iconst (-1), 0, 0, .int (-1), [], none),
  (54, 3, .if_icmp .ne 50, 104, 0, .null, [], none),
  (57, 1, .aload_n 0, 0, 0, .null, [], none),
  (58, 3, .getfield 9, 4, 1, .null, [], none),
  (61, 2, .iload 6, 6, 0, .null, [], none),
  (63, 1, .laload, 0, 0, .null, [], none),
  (64, 1, .lload_n 1, 1, 0, .null, [], none),
  (65, 3, .ldc2_w 78, 0, 0, .long (-1), [], none),
  (68, 1, .lxor, 0, 0, .null, [], none),
  (69, 1, .land, 0, 0, .null, [], none),
  (70, 1, .lconst 0, 0, 0, .long 0, [], none)] : List xr_E), xr_sd xm_P 98 e := by
  have hc : xp_cd xm_P 98 = prog_2_method_9_code := rfl
  have ho : xp_own xm_P 98 = "ExchangeText$Graph" := rfl
  have hm : xp_ml xm_P 98 = 7 := rfl
  exact xl_cons (xk_lconst hc xd_98_0 rfl) <|
    xl_cons (xk_lstore_n hc xd_98_1 hm rfl (by decide)) <|
    xl_cons (xk_iconst hc xd_98_2 (by decide)) <|
    xl_cons (xk_istore_n hc xd_98_3 hm rfl (by decide)) <|
    xl_cons (xk_iconst hc xd_98_4 (by decide)) <|
    xl_cons (xk_istore hc xd_98_5 hm rfl (by decide)) <|
    xl_cons (xk_iload hc xd_98_7 rfl) <|
    xl_cons (xk_bipush hc xd_98_9 (by decide)) <|
    xl_cons (xk_if_icmp hc xd_98_11 (by decide)) <|
    xl_cons (xk_iload_n hc xd_98_14 rfl) <|
    xl_cons (xk_ifCond hc xd_98_15 (by decide)) <|
    xl_cons (xk_iconst hc xd_98_18 (by decide)) <|
    xl_cons (xk_istore_n hc xd_98_19 hm rfl (by decide)) <|
    xl_cons (xk_iconst hc xd_98_20 (by decide)) <|
    xl_cons (xk_istore hc xd_98_21 hm rfl (by decide)) <|
    xl_cons (xk_iload hc xd_98_23 rfl) <|
    xl_cons (xk_aload_n hc xd_98_25 rfl) <|
    xl_cons (xk_getfield (C := xm_C4) (T := xm_T4) (N := 6) hc xd_98_26 ho rfl (by decide) xm_u4 xl_326) <|
    xl_cons (xk_getfield (C := xm_C3) (T := xm_T3) (N := 11) hc xd_98_29 ho rfl (by decide) xm_u3 xl_328) <|
    xl_cons (xk_if_icmp hc xd_98_32 (by decide)) <|
    xl_cons (xk_aload_n hc xd_98_35 rfl) <|
    xl_cons (xk_getfield (C := xm_C4) (T := xm_T4) (N := 6) hc xd_98_36 ho rfl (by decide) xm_u4 xl_326) <|
    xl_cons (xk_iload hc xd_98_39 rfl) <|
    xl_cons (xk_callV (Y := xm_y113) ho rfl (by decide) ⟨by decide, by decide⟩ xl_17 hc xd_98_41 rfl (b' := 1) rfl xm_nd113 (T := xm_T3) (N := 11) rfl xl_329 xl_94 xl_95) <|
    xl_cons (xk_istore hc xd_98_44 hm rfl (by decide)) <|
    xl_cons (xk_aload_n hc xd_98_46 rfl) <|
    xl_cons (xk_getfield (C := xm_C4) (T := xm_T4) (N := 6) hc xd_98_47 ho rfl (by decide) xm_u4 xl_322) <|
    xl_cons (xk_iload hc xd_98_50 rfl) <|
    xl_cons (xk_iaload hc xd_98_52) <|
    xl_cons (xk_iconst hc xd_98_53 (by decide)) <|
    xl_cons (xk_if_icmp hc xd_98_54 (by decide)) <|
    xl_cons (xk_aload_n hc xd_98_57 rfl) <|
    xl_cons (xk_getfield (C := xm_C4) (T := xm_T4) (N := 6) hc xd_98_58 ho rfl (by decide) xm_u4 xl_320) <|
    xl_cons (xk_iload hc xd_98_61 rfl) <|
    xl_cons (xk_laload hc xd_98_63) <|
    xl_cons (xk_lload_n hc xd_98_64 rfl) <|
    xl_cons (xk_ldc2 hc xd_98_65 ho rfl xl_347) <|
    xl_cons (xk_lxor hc xd_98_68) <|
    xl_cons (xk_land hc xd_98_69) <|
    xl_cons (xk_lconst hc xd_98_70 rfl) (xl_nil)
set_option maxRecDepth 100000 in
theorem xo_98_1 : ∀ e ∈ ([(71, 1, .lcmp, 0, 0, .null, [], none),
  (72, 3, .ifCond .ne 32, 104, 0, .null, [], none),
  (75, 1, .aload_n 0, 0, 0, .null, [], none),
  (76, 3, .getfield 18, 4, 3, .null, [], none),
  (79, 2, .iload 6, 6, 0, .null, [], none),
  (81, 1, .iconst 1, 0, 0, .int 1, [], none),
  (82, 1, .aload_n 0, 0, 0, .null, [], none),
  (83, 1, .aload_n 0, 0, 0, .null, [], none),
  (84, 3, .getfield 9, 4, 1, .null, [], none),
  (87, 2, .iload 6, 6, 0, .null, [], none),
  (89, 1, .laload, 0, 0, .null, [], none),
  (90, 3, .invokevirtual 80, 99, 2, .retAddr 0, [], none),
  (93, 1, .iadd, 0, 0, .null, [], none),
  (94, 1, .iastore, 0, 0, .null, [], none),
  (95, 1, .lload_n 1, 1, 0, .null, [], none),
  (96, 1, .lconst 1, 0, 0, .long 1, [], none),
  (97, 2, .iload 6, 6, 0, .null, [], none),
  (99, 1, .lshl, 0, 0, .null, [], none),
  (100, 1, .lor, 0, 0, .null, [], none),
  (101, 1, .lstore_n 1, 1, 0, .null, [], none),
  (102, 1, .iconst 1, 0, 0, .int 1, [], none),
  (103, 1, .istore_n 3, 3, 0, .null, [], none),
  (104, 3, .iinc 5 1, 5, 0, .int 1, [], none),
  (107, 3, .goto (-84), 23, 0, .null, [], none),
  (110, 3, .iinc 4 1, 4, 0, .int 1, [], none),
  (113, 3, .goto (-106), 7, 0, .null, [], none),
  (116, 1, .return_, 0, 0, .null, [], none)] : List xr_E), xr_sd xm_P 98 e := by
  have hc : xp_cd xm_P 98 = prog_2_method_9_code := rfl
  have ho : xp_own xm_P 98 = "ExchangeText$Graph" := rfl
  have hm : xp_ml xm_P 98 = 7 := rfl
  exact xl_cons (xk_lcmp hc xd_98_71) <|
    xl_cons (xk_ifCond hc xd_98_72 (by decide)) <|
    xl_cons (xk_aload_n hc xd_98_75 rfl) <|
    xl_cons (xk_getfield (C := xm_C4) (T := xm_T4) (N := 6) hc xd_98_76 ho rfl (by decide) xm_u4 xl_322) <|
    xl_cons (xk_iload hc xd_98_79 rfl) <|
    xl_cons (xk_iconst hc xd_98_81 (by decide)) <|
    xl_cons (xk_aload_n hc xd_98_82 rfl) <|
    xl_cons (xk_aload_n hc xd_98_83 rfl) <|
    xl_cons (xk_getfield (C := xm_C4) (T := xm_T4) (N := 6) hc xd_98_84 ho rfl (by decide) xm_u4 xl_320) <|
    xl_cons (xk_iload hc xd_98_87 rfl) <|
    xl_cons (xk_laload hc xd_98_89) <|
    xl_cons (xk_callV (Y := xm_y99) ho rfl (by decide) ⟨by decide, by decide⟩ xl_24 hc xd_98_90 rfl (b' := 1) rfl xm_nd99 (T := xm_T4) (N := 6) rfl xl_348 xl_349 xl_350) <|
    xl_cons (xk_iadd hc xd_98_93) <|
    xl_cons (xk_iastore hc xd_98_94) <|
    xl_cons (xk_lload_n hc xd_98_95 rfl) <|
    xl_cons (xk_lconst hc xd_98_96 rfl) <|
    xl_cons (xk_iload hc xd_98_97 rfl) <|
    xl_cons (xk_lshl hc xd_98_99) <|
    xl_cons (xk_lor hc xd_98_100) <|
    xl_cons (xk_lstore_n hc xd_98_101 hm rfl (by decide)) <|
    xl_cons (xk_iconst hc xd_98_102 (by decide)) <|
    xl_cons (xk_istore_n hc xd_98_103 hm rfl (by decide)) <|
    xl_cons (xk_iinc hc xd_98_104 hm rfl (by decide) (by decide)) <|
    xl_cons (xk_goto hc xd_98_107 (by decide)) <|
    xl_cons (xk_iinc hc xd_98_110 hm rfl (by decide) (by decide)) <|
    xl_cons (xk_goto hc xd_98_113 (by decide)) <|
    xl_cons (xk_return_ hc xd_98_116) (xl_nil)
theorem xo_98 : ∀ e ∈ xm_i98, xr_sd xm_P 98 e := xl_app xo_98_0 (xo_98_1)
set_option maxRecDepth 100000 in
theorem xo_99_0 : ∀ e ∈ ([(0, 1, .iconst (-1), 0, 0, .int (-1), [], none),
  (1, 1, .istore_n 3, 3, 0, .null, [], none),
  (2, 1, .iconst 0, 0, 0, .int 0, [], none),
  (3, 2, .istore 4, 4, 0, .null, [], none),
  (5, 2, .iload 4, 4, 0, .null, [], none),
  (7, 2, .bipush 40, 0, 0, .int 40, [], none),
  (9, 3, .if_icmp .ge 32, 41, 0, .null, [], none),
  (12, 1, .lload_n 1, 1, 0, .null, [], none),
  (13, 2, .iload 4, 4, 0, .null, [], none),
  (15, 1, .lushr, 0, 0, .null, [], none),
  (16, 1, .lconst 1, 0, 0, .long 1, [], none),
  (17, 1, .land, 0, 0, .null, [], none),
  (18, 1, .lconst 0, 0, 0, .long 0, [], none),
  (19, 1, .lcmp, 0, 0, .null, [], none),
  (20, 3, .ifCond .eq 15, 35, 0, .null, [], none),
  (23, 1, .iload_n 3, 3, 0, .null, [], none),
  (24, 1, .aload_n 0, 0, 0, .null, [], none),
  (25, 3, .getfield 18, 4, 3, .null, [], none),
  (28, 2, .iload 4, 4, 0, .null, [], none),
  (30, 1, .iaload, 0, 0, .null, [], none),
  (31, 3, .invokestatic 84, 0, 0, .int 2, [], none),
  (34, 1, .istore_n 3, 3, 0, .null, [], none),
  (35, 3, .iinc 4 1, 4, 0, .int 1, [], none),
  (38, 3, .goto (-33), 5, 0, .null, [], none),
  (41, 1, .iload_n 3, 3, 0, .null, [], none),
  (42, 1, .ireturn, 0, 0, .null, [], none)] : List xr_E), xr_sd xm_P 99 e := by
  have hc : xp_cd xm_P 99 = prog_2_method_10_code := rfl
  have ho : xp_own xm_P 99 = "ExchangeText$Graph" := rfl
  have hm : xp_ml xm_P 99 = 5 := rfl
  exact xl_cons (xk_iconst hc xd_99_0 (by decide)) <|
    xl_cons (xk_istore_n hc xd_99_1 hm rfl (by decide)) <|
    xl_cons (xk_iconst hc xd_99_2 (by decide)) <|
    xl_cons (xk_istore hc xd_99_3 hm rfl (by decide)) <|
    xl_cons (xk_iload hc xd_99_5 rfl) <|
    xl_cons (xk_bipush hc xd_99_7 (by decide)) <|
    xl_cons (xk_if_icmp hc xd_99_9 (by decide)) <|
    xl_cons (xk_lload_n hc xd_99_12 rfl) <|
    xl_cons (xk_iload hc xd_99_13 rfl) <|
    xl_cons (xk_lushr hc xd_99_15) <|
    xl_cons (xk_lconst hc xd_99_16 rfl) <|
    xl_cons (xk_land hc xd_99_17) <|
    xl_cons (xk_lconst hc xd_99_18 rfl) <|
    xl_cons (xk_lcmp hc xd_99_19) <|
    xl_cons (xk_ifCond hc xd_99_20 (by decide)) <|
    xl_cons (xk_iload_n hc xd_99_23 rfl) <|
    xl_cons (xk_aload_n hc xd_99_24 rfl) <|
    xl_cons (xk_getfield (C := xm_C4) (T := xm_T4) (N := 6) hc xd_99_25 ho rfl (by decide) xm_u4 xl_322) <|
    xl_cons (xk_iload hc xd_99_28 rfl) <|
    xl_cons (xk_iaload hc xd_99_30) <|
    xl_cons (xk_mmax hc xd_99_31 ho xm_rl99 xl_351 xl_352 xl_353 xl_354) <|
    xl_cons (xk_istore_n hc xd_99_34 hm rfl (by decide)) <|
    xl_cons (xk_iinc hc xd_99_35 hm rfl (by decide) (by decide)) <|
    xl_cons (xk_goto hc xd_99_38 (by decide)) <|
    xl_cons (xk_iload_n hc xd_99_41 rfl) <|
    xl_cons (xk_ireturn hc xd_99_42) (xl_nil)
theorem xo_99 : ∀ e ∈ xm_i99, xr_sd xm_P 99 e := xo_99_0
set_option maxRecDepth 100000 in
theorem xo_100_0 : ∀ e ∈ ([(0, 1, .aload_n 0, 0, 0, .null, [], none),
  (1, 3, .getfield 35, 4, 5, .null, [], none),
  (4, 3, .ifCond .eq 4, 8, 0, .null, [], none),
  (7, 1, .return_, 0, 0, .null, [], none),
  (8, 1, .iconst (-1), 0, 0, .int (-1), [], none),
  (9, 1, .istore_n 1, 1, 0, .null, [], none),
  (10, 1, .iconst 0, 0, 0, .int 0, [], none),
  (11, 1, .istore_n 2, 2, 0, .null, [], none),
  (12, 1, .iload_n 2, 2, 0, .null, [], none),
  (13, 1, .aload_n 0, 0, 0, .null, [], none),
  (14, 3, .getfield 31, 4, 0, .null, [], none),
  (17, 3, .getfield 39, 3, 1, .null, [], none),
  (20, 3, .if_icmp .ge 54, 74, 0, .null, [], none),
  (23, 1, .aload_n 0, 0, 0, .null, [], none),
  (24, 3, .getfield 31, 4, 0, .null, [], none),
  (27, 1, .iload_n 2, 2, 0, .null, [], none),
  (28, 3, .invokevirtual 45, 113, 2, .retAddr 0, [], none),
  (31, 1, .istore_n 3, 3, 0, .null, [], none),
  (32, 1, .aload_n 0, 0, 0, .null, [], none),
  (33, 3, .getfield 27, 4, 4, .null, [], none),
  (36, 1, .aload_n 0, 0, 0, .null, [], none),
  (37, 3, .getfield 31, 4, 0, .null, [], none),
  (40, 3, .getfield 89, 3, 3, .null, [], none),
  (43, 1, .iload_n 3, 3, 0, .null, [], none),
  (44, 1, .iaload, 0, 0, .null, [], none),
  (45, 1, .aload_n 0, 0, 0, .null, [], none),
  (46, 3, .getfield 31, 4, 0, .null, [], none),
  (49, 3, .getfield 89, 3, 3, .null, [], none),
  (52, 1, .iload_n 3, 3, 0, .null, [], none),
  (53, 1, .iaload, 0, 0, .null, [], none),
  (54, 3, .invokevirtual 92, 110, 3, .retAddr 0, [], none),
  (57, 1, .iload_n 1, 1, 0, .null, [], none),
  (58, 1, .aload_n 0, 0, 0, .null, [], none),
  (59, 3, .getfield 18, 4, 3, .null, [], none),
  (62, 1, .iload_n 3, 3, 0, .null, [], none),
  (63, 1, .iaload, 0, 0, .null, [], none),
  (64, 3, .invokestatic 84, 0, 0, .int 2, [], none),
  (67, 1, .istore_n 1, 1, 0, .null, [], none),
  (68, 3, .iinc 2 1, 2, 0, .int 1, [], none),
  (71, 3, .goto (-59), 12, 0, .null, [], none)] : List xr_E), xr_sd xm_P 100 e := by
  have hc : xp_cd xm_P 100 = prog_2_method_11_code := rfl
  have ho : xp_own xm_P 100 = "ExchangeText$Graph" := rfl
  have hm : xp_ml xm_P 100 = 5 := rfl
  exact xl_cons (xk_aload_n hc xd_100_0 rfl) <|
    xl_cons (xk_getfield (C := xm_C4) (T := xm_T4) (N := 6) hc xd_100_1 ho rfl (by decide) xm_u4 xl_327) <|
    xl_cons (xk_ifCond hc xd_100_4 (by decide)) <|
    xl_cons (xk_return_ hc xd_100_7) <|
    xl_cons (xk_iconst hc xd_100_8 (by decide)) <|
    xl_cons (xk_istore_n hc xd_100_9 hm rfl (by decide)) <|
    xl_cons (xk_iconst hc xd_100_10 (by decide)) <|
    xl_cons (xk_istore_n hc xd_100_11 hm rfl (by decide)) <|
    xl_cons (xk_iload_n hc xd_100_12 rfl) <|
    xl_cons (xk_aload_n hc xd_100_13 rfl) <|
    xl_cons (xk_getfield (C := xm_C4) (T := xm_T4) (N := 6) hc xd_100_14 ho rfl (by decide) xm_u4 xl_326) <|
    xl_cons (xk_getfield (C := xm_C3) (T := xm_T3) (N := 11) hc xd_100_17 ho rfl (by decide) xm_u3 xl_328) <|
    xl_cons (xk_if_icmp hc xd_100_20 (by decide)) <|
    xl_cons (xk_aload_n hc xd_100_23 rfl) <|
    xl_cons (xk_getfield (C := xm_C4) (T := xm_T4) (N := 6) hc xd_100_24 ho rfl (by decide) xm_u4 xl_326) <|
    xl_cons (xk_iload_n hc xd_100_27 rfl) <|
    xl_cons (xk_callV (Y := xm_y113) ho rfl (by decide) ⟨by decide, by decide⟩ xl_17 hc xd_100_28 rfl (b' := 1) rfl xm_nd113 (T := xm_T3) (N := 11) rfl xl_329 xl_94 xl_95) <|
    xl_cons (xk_istore_n hc xd_100_31 hm rfl (by decide)) <|
    xl_cons (xk_aload_n hc xd_100_32 rfl) <|
    xl_cons (xk_getfield (C := xm_C4) (T := xm_T4) (N := 6) hc xd_100_33 ho rfl (by decide) xm_u4 xl_325) <|
    xl_cons (xk_aload_n hc xd_100_36 rfl) <|
    xl_cons (xk_getfield (C := xm_C4) (T := xm_T4) (N := 6) hc xd_100_37 ho rfl (by decide) xm_u4 xl_326) <|
    xl_cons (xk_getfield (C := xm_C3) (T := xm_T3) (N := 11) hc xd_100_40 ho rfl (by decide) xm_u3 xl_355) <|
    xl_cons (xk_iload_n hc xd_100_43 rfl) <|
    xl_cons (xk_iaload hc xd_100_44) <|
    xl_cons (xk_aload_n hc xd_100_45 rfl) <|
    xl_cons (xk_getfield (C := xm_C4) (T := xm_T4) (N := 6) hc xd_100_46 ho rfl (by decide) xm_u4 xl_326) <|
    xl_cons (xk_getfield (C := xm_C3) (T := xm_T3) (N := 11) hc xd_100_49 ho rfl (by decide) xm_u3 xl_355) <|
    xl_cons (xk_iload_n hc xd_100_52 rfl) <|
    xl_cons (xk_iaload hc xd_100_53) <|
    xl_cons (xk_callV (Y := xm_y110) ho rfl (by decide) ⟨by decide, by decide⟩ xl_30 hc xd_100_54 rfl (b' := 2) rfl xm_nd110 (T := xm_T5) (N := 1) rfl xl_356 xl_357 xl_358) <|
    xl_cons (xk_iload_n hc xd_100_57 rfl) <|
    xl_cons (xk_aload_n hc xd_100_58 rfl) <|
    xl_cons (xk_getfield (C := xm_C4) (T := xm_T4) (N := 6) hc xd_100_59 ho rfl (by decide) xm_u4 xl_322) <|
    xl_cons (xk_iload_n hc xd_100_62 rfl) <|
    xl_cons (xk_iaload hc xd_100_63) <|
    xl_cons (xk_mmax hc xd_100_64 ho xm_rl100 xl_351 xl_352 xl_353 xl_354) <|
    xl_cons (xk_istore_n hc xd_100_67 hm rfl (by decide)) <|
    xl_cons (xk_iinc hc xd_100_68 hm rfl (by decide) (by decide)) <|
    xl_cons (xk_goto hc xd_100_71 (by decide)) (xl_nil)
set_option maxRecDepth 100000 in
theorem xo_100_1 : ∀ e ∈ ([(74, 1, .iconst 0, 0, 0, .int 0, [], none),
  (75, 1, .istore_n 2, 2, 0, .null, [], none),
  (76, 1, .iload_n 2, 2, 0, .null, [], none),
  (77, 1, .iload_n 1, 1, 0, .null, [], none),
  (78, 3, .if_icmp .gt 73, 151, 0, .null, [], none),
  (81, 1, .iconst 0, 0, 0, .int 0, [], none),
  (82, 1, .istore_n 3, 3, 0, .null, [], none),
  (83, 1, .iload_n 3, 3, 0, .null, [], none),
  (84, 1, .aload_n 0, 0, 0, .null, [], none),
  (85, 3, .getfield 31, 4, 0, .null, [], none),
  (88, 3, .getfield 39, 3, 1, .null, [], none),
  (91, 3, .if_icmp .ge 54, 145, 0, .null, [], none),
  (94, 1, .aload_n 0, 0, 0, .null, [], none),
  (95, 3, .getfield 31, 4, 0, .null, [], none),
  (98, 1, .iload_n 3, 3, 0, .null, [], none),
  (99, 3, .invokevirtual 45, 113, 2, .retAddr 0, [], none),
  (102, 2, .istore 4, 4, 0, .null, [], none),
  (104, 1, .aload_n 0, 0, 0, .null, [], none),
  (105, 3, .getfield 18, 4, 3, .null, [], none),
  (108, 2, .iload 4, 4, 0, .null, [], none),
  (110, 1, .iaload, 0, 0, .null, [], none),
  (111, 1, .iload_n 2, 2, 0, .null, [], none),
  (112, 3, .if_icmp .ne 27, 139, 0, .null, [], none),
  (115, 1, .aload_n 0, 0, 0, .null, [], none),
  (116, 3, .getfield 27, 4, 4, .null, [], none),
  (119, 1, .aload_n 0, 0, 0, .null, [], none),
  (120, 3, .getfield 31, 4, 0, .null, [], none),
  (123, 3, .getfield 89, 3, 3, .null, [], none),
  (126, 2, .iload 4, 4, 0, .null, [], none),
  (128, 1, .iaload, 0, 0, .null, [], none),
  (129, 1, .aload_n 0, 0, 0, .null, [], none),
  (130, 2, .iload 4, 4, 0, .null, [], none),
  (132, 1, .iload_n 3, 3, 0, .null, [], none),
  (133, 3, .invokevirtual 96, 101, 3, .retAddr 0, [], none),
  (136, 3, .invokevirtual 92, 110, 3, .retAddr 0, [], none),
  (139, 3, .iinc 3 1, 3, 0, .int 1, [], none),
  (142, 3, .goto (-59), 83, 0, .null, [], none),
  (145, 3, .iinc 2 1, 2, 0, .int 1, [], none),
  (148, 3, .goto (-72), 76, 0, .null, [], none),
  (151, 1, .aload_n 0, 0, 0, .null, [], none)] : List xr_E), xr_sd xm_P 100 e := by
  have hc : xp_cd xm_P 100 = prog_2_method_11_code := rfl
  have ho : xp_own xm_P 100 = "ExchangeText$Graph" := rfl
  have hm : xp_ml xm_P 100 = 5 := rfl
  exact xl_cons (xk_iconst hc xd_100_74 (by decide)) <|
    xl_cons (xk_istore_n hc xd_100_75 hm rfl (by decide)) <|
    xl_cons (xk_iload_n hc xd_100_76 rfl) <|
    xl_cons (xk_iload_n hc xd_100_77 rfl) <|
    xl_cons (xk_if_icmp hc xd_100_78 (by decide)) <|
    xl_cons (xk_iconst hc xd_100_81 (by decide)) <|
    xl_cons (xk_istore_n hc xd_100_82 hm rfl (by decide)) <|
    xl_cons (xk_iload_n hc xd_100_83 rfl) <|
    xl_cons (xk_aload_n hc xd_100_84 rfl) <|
    xl_cons (xk_getfield (C := xm_C4) (T := xm_T4) (N := 6) hc xd_100_85 ho rfl (by decide) xm_u4 xl_326) <|
    xl_cons (xk_getfield (C := xm_C3) (T := xm_T3) (N := 11) hc xd_100_88 ho rfl (by decide) xm_u3 xl_328) <|
    xl_cons (xk_if_icmp hc xd_100_91 (by decide)) <|
    xl_cons (xk_aload_n hc xd_100_94 rfl) <|
    xl_cons (xk_getfield (C := xm_C4) (T := xm_T4) (N := 6) hc xd_100_95 ho rfl (by decide) xm_u4 xl_326) <|
    xl_cons (xk_iload_n hc xd_100_98 rfl) <|
    xl_cons (xk_callV (Y := xm_y113) ho rfl (by decide) ⟨by decide, by decide⟩ xl_17 hc xd_100_99 rfl (b' := 1) rfl xm_nd113 (T := xm_T3) (N := 11) rfl xl_329 xl_94 xl_95) <|
    xl_cons (xk_istore hc xd_100_102 hm rfl (by decide)) <|
    xl_cons (xk_aload_n hc xd_100_104 rfl) <|
    xl_cons (xk_getfield (C := xm_C4) (T := xm_T4) (N := 6) hc xd_100_105 ho rfl (by decide) xm_u4 xl_322) <|
    xl_cons (xk_iload hc xd_100_108 rfl) <|
    xl_cons (xk_iaload hc xd_100_110) <|
    xl_cons (xk_iload_n hc xd_100_111 rfl) <|
    xl_cons (xk_if_icmp hc xd_100_112 (by decide)) <|
    xl_cons (xk_aload_n hc xd_100_115 rfl) <|
    xl_cons (xk_getfield (C := xm_C4) (T := xm_T4) (N := 6) hc xd_100_116 ho rfl (by decide) xm_u4 xl_325) <|
    xl_cons (xk_aload_n hc xd_100_119 rfl) <|
    xl_cons (xk_getfield (C := xm_C4) (T := xm_T4) (N := 6) hc xd_100_120 ho rfl (by decide) xm_u4 xl_326) <|
    xl_cons (xk_getfield (C := xm_C3) (T := xm_T3) (N := 11) hc xd_100_123 ho rfl (by decide) xm_u3 xl_355) <|
    xl_cons (xk_iload hc xd_100_126 rfl) <|
    xl_cons (xk_iaload hc xd_100_128) <|
    xl_cons (xk_aload_n hc xd_100_129 rfl) <|
    xl_cons (xk_iload hc xd_100_130 rfl) <|
    xl_cons (xk_iload_n hc xd_100_132 rfl) <|
    xl_cons (xk_callV (Y := xm_y101) ho rfl (by decide) ⟨by decide, by decide⟩ xl_24 hc xd_100_133 rfl (b' := 2) rfl xm_nd101 (T := xm_T4) (N := 6) rfl xl_359 xl_360 xl_361) <|
    xl_cons (xk_callV (Y := xm_y110) ho rfl (by decide) ⟨by decide, by decide⟩ xl_30 hc xd_100_136 rfl (b' := 2) rfl xm_nd110 (T := xm_T5) (N := 1) rfl xl_356 xl_357 xl_358) <|
    xl_cons (xk_iinc hc xd_100_139 hm rfl (by decide) (by decide)) <|
    xl_cons (xk_goto hc xd_100_142 (by decide)) <|
    xl_cons (xk_iinc hc xd_100_145 hm rfl (by decide) (by decide)) <|
    xl_cons (xk_goto hc xd_100_148 (by decide)) <|
    xl_cons (xk_aload_n hc xd_100_151 rfl) (xl_nil)
set_option maxRecDepth 100000 in
theorem xo_100_2 : ∀ e ∈ ([(152, 1, .iconst 1, 0, 0, .int 1, [], none),
  (153, 3, .putfield 35, 4, 5, .null, [], none),
  (156, 1, .return_, 0, 0, .null, [], none)] : List xr_E), xr_sd xm_P 100 e := by
  have hc : xp_cd xm_P 100 = prog_2_method_11_code := rfl
  have ho : xp_own xm_P 100 = "ExchangeText$Graph" := rfl
  have hm : xp_ml xm_P 100 = 5 := rfl
  exact xl_cons (xk_iconst hc xd_100_152 (by decide)) <|
    xl_cons (xk_putfield (C := xm_C4) (T := xm_T4) (N := 6) (ty := xm_ty4) hc xd_100_153 ho rfl (by decide) xm_u4 xm_tk4 rfl xm_nm4 xl_327 rfl) <|
    xl_cons (xk_return_ hc xd_100_156) (xl_nil)
theorem xo_100 : ∀ e ∈ xm_i100, xr_sd xm_P 100 e := xl_app xo_100_0 (xl_app xo_100_1 (xo_100_2))
set_option maxRecDepth 100000 in
theorem xo_101_0 : ∀ e ∈ ([(0, 1, .iconst 0, 0, 0, .int 0, [], none),
  (1, 1, .istore_n 3, 3, 0, .null, [], none),
  (2, 1, .iload_n 3, 3, 0, .null, [], none),
  (3, 1, .iload_n 2, 2, 0, .null, [], none),
  (4, 3, .if_icmp .ge 67, 71, 0, .null, [], none),
  (7, 1, .aload_n 0, 0, 0, .null, [], none),
  (8, 3, .getfield 31, 4, 0, .null, [], none),
  (11, 1, .iload_n 3, 3, 0, .null, [], none),
  (12, 3, .invokevirtual 45, 113, 2, .retAddr 0, [], none),
  (15, 2, .istore 4, 4, 0, .null, [], none),
  (17, 1, .aload_n 0, 0, 0, .null, [], none),
  (18, 3, .getfield 18, 4, 3, .null, [], none),
  (21, 2, .iload 4, 4, 0, .null, [], none),
  (23, 1, .iaload, 0, 0, .null, [], none),
  (24, 1, .aload_n 0, 0, 0, .null, [], none),
  (25, 3, .getfield 18, 4, 3, .null, [], none),
  (28, 1, .iload_n 1, 1, 0, .null, [], none),
  (29, 1, .iaload, 0, 0, .null, [], none),
  (30, 3, .if_icmp .ne 35, 65, 0, .null, [], none),
  (33, 1, .aload_n 0, 0, 0, .null, [], none),
  (34, 3, .getfield 31, 4, 0, .null, [], none),
  (37, 1, .iload_n 1, 1, 0, .null, [], none),
  (38, 1, .aload_n 0, 0, 0, .null, [], none),
  (39, 3, .getfield 31, 4, 0, .null, [], none),
  (42, 2, .iload 4, 4, 0, .null, [], none),
  (44, 1, .aload_n 0, 0, 0, .null, [], none),
  (45, 3, .getfield 27, 4, 4, .null, [], none),
  (48, 3, .invokevirtual 99, 126, 5, .retAddr 0, [], none),
  (51, 3, .ifCond .eq 14, 65, 0, .null, [], none),
  (54, 1, .aload_n 0, 0, 0, .null, [], none),
  (55, 3, .getfield 31, 4, 0, .null, [], none),
  (58, 3, .getfield 89, 3, 3, .null, [], none),
  (61, 2, .iload 4, 4, 0, .null, [], none),
  (63, 1, .iaload, 0, 0, .null, [], none),
  (64, 1, .ireturn, 0, 0, .null, [], none),
  (65, 3, .iinc 3 1, 3, 0, .int 1, [], none),
  (68, 3, .goto (-66), 2, 0, .null, [], none),
  (71, 1, .aload_n 0, 0, 0, .null, [], none),
  (72, 3, .getfield 31, 4, 0, .null, [], none),
  (75, 3, .getfield 89, 3, 3, .null, [], none)] : List xr_E), xr_sd xm_P 101 e := by
  have hc : xp_cd xm_P 101 = prog_2_method_12_code := rfl
  have ho : xp_own xm_P 101 = "ExchangeText$Graph" := rfl
  have hm : xp_ml xm_P 101 = 5 := rfl
  exact xl_cons (xk_iconst hc xd_101_0 (by decide)) <|
    xl_cons (xk_istore_n hc xd_101_1 hm rfl (by decide)) <|
    xl_cons (xk_iload_n hc xd_101_2 rfl) <|
    xl_cons (xk_iload_n hc xd_101_3 rfl) <|
    xl_cons (xk_if_icmp hc xd_101_4 (by decide)) <|
    xl_cons (xk_aload_n hc xd_101_7 rfl) <|
    xl_cons (xk_getfield (C := xm_C4) (T := xm_T4) (N := 6) hc xd_101_8 ho rfl (by decide) xm_u4 xl_326) <|
    xl_cons (xk_iload_n hc xd_101_11 rfl) <|
    xl_cons (xk_callV (Y := xm_y113) ho rfl (by decide) ⟨by decide, by decide⟩ xl_17 hc xd_101_12 rfl (b' := 1) rfl xm_nd113 (T := xm_T3) (N := 11) rfl xl_329 xl_94 xl_95) <|
    xl_cons (xk_istore hc xd_101_15 hm rfl (by decide)) <|
    xl_cons (xk_aload_n hc xd_101_17 rfl) <|
    xl_cons (xk_getfield (C := xm_C4) (T := xm_T4) (N := 6) hc xd_101_18 ho rfl (by decide) xm_u4 xl_322) <|
    xl_cons (xk_iload hc xd_101_21 rfl) <|
    xl_cons (xk_iaload hc xd_101_23) <|
    xl_cons (xk_aload_n hc xd_101_24 rfl) <|
    xl_cons (xk_getfield (C := xm_C4) (T := xm_T4) (N := 6) hc xd_101_25 ho rfl (by decide) xm_u4 xl_322) <|
    xl_cons (xk_iload_n hc xd_101_28 rfl) <|
    xl_cons (xk_iaload hc xd_101_29) <|
    xl_cons (xk_if_icmp hc xd_101_30 (by decide)) <|
    xl_cons (xk_aload_n hc xd_101_33 rfl) <|
    xl_cons (xk_getfield (C := xm_C4) (T := xm_T4) (N := 6) hc xd_101_34 ho rfl (by decide) xm_u4 xl_326) <|
    xl_cons (xk_iload_n hc xd_101_37 rfl) <|
    xl_cons (xk_aload_n hc xd_101_38 rfl) <|
    xl_cons (xk_getfield (C := xm_C4) (T := xm_T4) (N := 6) hc xd_101_39 ho rfl (by decide) xm_u4 xl_326) <|
    xl_cons (xk_iload hc xd_101_42 rfl) <|
    xl_cons (xk_aload_n hc xd_101_44 rfl) <|
    xl_cons (xk_getfield (C := xm_C4) (T := xm_T4) (N := 6) hc xd_101_45 ho rfl (by decide) xm_u4 xl_325) <|
    xl_cons (xk_callV (Y := xm_y126) ho rfl (by decide) ⟨by decide, by decide⟩ xl_17 hc xd_101_48 rfl (b' := 4) rfl xm_nd126 (T := xm_T3) (N := 11) rfl xl_362 xl_174 xl_175) <|
    xl_cons (xk_ifCond hc xd_101_51 (by decide)) <|
    xl_cons (xk_aload_n hc xd_101_54 rfl) <|
    xl_cons (xk_getfield (C := xm_C4) (T := xm_T4) (N := 6) hc xd_101_55 ho rfl (by decide) xm_u4 xl_326) <|
    xl_cons (xk_getfield (C := xm_C3) (T := xm_T3) (N := 11) hc xd_101_58 ho rfl (by decide) xm_u3 xl_355) <|
    xl_cons (xk_iload hc xd_101_61 rfl) <|
    xl_cons (xk_iaload hc xd_101_63) <|
    xl_cons (xk_ireturn hc xd_101_64) <|
    xl_cons (xk_iinc hc xd_101_65 hm rfl (by decide) (by decide)) <|
    xl_cons (xk_goto hc xd_101_68 (by decide)) <|
    xl_cons (xk_aload_n hc xd_101_71 rfl) <|
    xl_cons (xk_getfield (C := xm_C4) (T := xm_T4) (N := 6) hc xd_101_72 ho rfl (by decide) xm_u4 xl_326) <|
    xl_cons (xk_getfield (C := xm_C3) (T := xm_T3) (N := 11) hc xd_101_75 ho rfl (by decide) xm_u3 xl_355) (xl_nil)
set_option maxRecDepth 100000 in
theorem xo_101_1 : ∀ e ∈ ([(78, 1, .iload_n 1, 1, 0, .null, [], none),
  (79, 1, .iaload, 0, 0, .null, [], none),
  (80, 1, .ireturn, 0, 0, .null, [], none)] : List xr_E), xr_sd xm_P 101 e := by
  have hc : xp_cd xm_P 101 = prog_2_method_12_code := rfl
  have ho : xp_own xm_P 101 = "ExchangeText$Graph" := rfl
  have hm : xp_ml xm_P 101 = 5 := rfl
  exact xl_cons (xk_iload_n hc xd_101_78 rfl) <|
    xl_cons (xk_iaload hc xd_101_79) <|
    xl_cons (xk_ireturn hc xd_101_80) (xl_nil)
theorem xo_101 : ∀ e ∈ xm_i101, xr_sd xm_P 101 e := xl_app xo_101_0 (xo_101_1)
set_option maxRecDepth 100000 in
theorem xo_102_0 : ∀ e ∈ ([(0, 1, .aload_n 0, 0, 0, .null, [], none),
  (1, 3, .invokespecial 3, 0, 0, .int 1, [], none),
  (4, 1, .aload_n 0, 0, 0, .null, [], none),
  (5, 2, .bipush 12, 0, 0, .int 12, [], none),
  (7, 2, .newarray .long, 1, 0, .null, [], none),
  (9, 3, .putfield 9, 2, 1, .null, [], none),
  (12, 1, .aload_n 0, 0, 0, .null, [], none),
  (13, 2, .bipush 12, 0, 0, .int 12, [], none),
  (15, 2, .newarray .int, 0, 0, .null, [], none),
  (17, 3, .putfield 15, 2, 2, .null, [], none),
  (20, 1, .aload_n 0, 0, 0, .null, [], none),
  (21, 2, .bipush 96, 0, 0, .int 96, [], none),
  (23, 2, .newarray .int, 0, 0, .null, [], none),
  (25, 3, .putfield 19, 2, 3, .null, [], none),
  (28, 1, .aload_n 0, 0, 0, .null, [], none),
  (29, 2, .bipush 96, 0, 0, .int 96, [], none),
  (31, 2, .newarray .boolean, 3, 0, .null, [], none),
  (33, 3, .putfield 22, 2, 4, .null, [], none),
  (36, 1, .return_, 0, 0, .null, [], none)] : List xr_E), xr_sd xm_P 102 e := by
  have hc : xp_cd xm_P 102 = prog_3_method_1_code := rfl
  have ho : xp_own xm_P 102 = "ExchangeText$Kinds" := rfl
  have hm : xp_ml xm_P 102 = 1 := rfl
  exact xl_cons (xk_aload_n hc xd_102_0 rfl) <|
    xl_cons (xk_objInit hc xd_102_1 ho xm_rl102 xl_363 xl_1 xl_2) <|
    xl_cons (xk_aload_n hc xd_102_4 rfl) <|
    xl_cons (xk_bipush hc xd_102_5 (by decide)) <|
    xl_cons (xk_newarray hc xd_102_7 (by decide) rfl xl_197) <|
    xl_cons (xk_putfieldF (C := xm_C2) (T := xm_T2) (N := 5) (ty := xm_ty2) hc xd_102_9 ho rfl (by decide) xm_u2 xm_tk2 rfl xm_nm2 xl_364 rfl rfl rfl) <|
    xl_cons (xk_aload_n hc xd_102_12 rfl) <|
    xl_cons (xk_bipush hc xd_102_13 (by decide)) <|
    xl_cons (xk_newarray hc xd_102_15 (by decide) rfl xl_177) <|
    xl_cons (xk_putfieldF (C := xm_C2) (T := xm_T2) (N := 5) (ty := xm_ty2) hc xd_102_17 ho rfl (by decide) xm_u2 xm_tk2 rfl xm_nm2 xl_365 rfl rfl rfl) <|
    xl_cons (xk_aload_n hc xd_102_20 rfl) <|
    xl_cons (xk_bipush hc xd_102_21 (by decide)) <|
    xl_cons (xk_newarray hc xd_102_23 (by decide) rfl xl_177) <|
    xl_cons (xk_putfieldF (C := xm_C2) (T := xm_T2) (N := 5) (ty := xm_ty2) hc xd_102_25 ho rfl (by decide) xm_u2 xm_tk2 rfl xm_nm2 xl_366 rfl rfl rfl) <|
    xl_cons (xk_aload_n hc xd_102_28 rfl) <|
    xl_cons (xk_bipush hc xd_102_29 (by decide)) <|
    xl_cons (xk_newarray hc xd_102_31 (by decide) rfl xl_185) <|
    xl_cons (xk_putfieldF (C := xm_C2) (T := xm_T2) (N := 5) (ty := xm_ty2) hc xd_102_33 ho rfl (by decide) xm_u2 xm_tk2 rfl xm_nm2 xl_367 rfl rfl rfl) <|
    xl_cons (xk_return_ hc xd_102_36) (xl_nil)
theorem xo_102 : ∀ e ∈ xm_i102, xr_sd xm_P 102 e := xo_102_0
set_option maxRecDepth 100000 in
theorem xo_103_0 : ∀ e ∈ ([(0, 1, .iconst 0, 0, 0, .int 0, [], none),
  (1, 1, .istore_n 3, 3, 0, .null, [], none),
  (2, 1, .iload_n 3, 3, 0, .null, [], none),
  (3, 1, .aload_n 0, 0, 0, .null, [], none),
  (4, 3, .getfield 26, 2, 0, .null, [], none),
  (7, 3, .if_icmp .ge 22, 29, 0, .null, [], none),
  (10, 1, .aload_n 0, 0, 0, .null, [], none),
  (11, 3, .getfield 9, 2, 1, .null, [], none),
  (14, 1, .iload_n 3, 3, 0, .null, [], none),
  (15, 1, .laload, 0, 0, .null, [], none),
  (16, 1, .lload_n 1, 1, 0, .null, [], none),
  (17, 1, .lcmp, 0, 0, .null, [], none),
  (18, 3, .ifCond .ne 5, 23, 0, .null, [], none),
  (21, 1, .iload_n 3, 3, 0, .null, [], none),
  (22, 1, .ireturn, 0, 0, .null, [], none),
  (23, 3, .iinc 3 1, 3, 0, .int 1, [], none),
  (26, 3, .goto (-24), 2, 0, .null, [], none),
  (29, 1, .iconst (-1), 0, 0, .int (-1), [], none),
  (30, 1, .ireturn, 0, 0, .null, [], none)] : List xr_E), xr_sd xm_P 103 e := by
  have hc : xp_cd xm_P 103 = prog_3_method_2_code := rfl
  have ho : xp_own xm_P 103 = "ExchangeText$Kinds" := rfl
  have hm : xp_ml xm_P 103 = 4 := rfl
  exact xl_cons (xk_iconst hc xd_103_0 (by decide)) <|
    xl_cons (xk_istore_n hc xd_103_1 hm rfl (by decide)) <|
    xl_cons (xk_iload_n hc xd_103_2 rfl) <|
    xl_cons (xk_aload_n hc xd_103_3 rfl) <|
    xl_cons (xk_getfield (C := xm_C2) (T := xm_T2) (N := 5) hc xd_103_4 ho rfl (by decide) xm_u2 xl_368) <|
    xl_cons (xk_if_icmp hc xd_103_7 (by decide)) <|
    xl_cons (xk_aload_n hc xd_103_10 rfl) <|
    xl_cons (xk_getfield (C := xm_C2) (T := xm_T2) (N := 5) hc xd_103_11 ho rfl (by decide) xm_u2 xl_364) <|
    xl_cons (xk_iload_n hc xd_103_14 rfl) <|
    xl_cons (xk_laload hc xd_103_15) <|
    xl_cons (xk_lload_n hc xd_103_16 rfl) <|
    xl_cons (xk_lcmp hc xd_103_17) <|
    xl_cons (xk_ifCond hc xd_103_18 (by decide)) <|
    xl_cons (xk_iload_n hc xd_103_21 rfl) <|
    xl_cons (xk_ireturn hc xd_103_22) <|
    xl_cons (xk_iinc hc xd_103_23 hm rfl (by decide) (by decide)) <|
    xl_cons (xk_goto hc xd_103_26 (by decide)) <|
    xl_cons (xk_iconst hc xd_103_29 (by decide)) <|
    xl_cons (xk_ireturn hc xd_103_30) (xl_nil)
theorem xo_103 : ∀ e ∈ xm_i103, xr_sd xm_P 103 e := xo_103_0
set_option maxRecDepth 100000 in
theorem xo_104_0 : ∀ e ∈ ([(0, 1, .aload_n 0, 0, 0, .null, [], none),
  (1, 3, .getfield 26, 2, 0, .null, [], none),
  (4, 2, .bipush 12, 0, 0, .int 12, [], none),
  (6, 3, .if_icmp .ge 33, 39, 0, .null, [], none),
  (9, 1, .aload_n 0, 0, 0, .null, [], none),
  (10, 3, .getfield 9, 2, 1, .null, [], none),
  (13, 1, .aload_n 0, 0, 0, .null, [], none),
  (14, 3, .getfield 26, 2, 0, .null, [], none),
  (17, 1, .lload_n 1, 1, 0, .null, [], none),
  (18, 1, .lastore, 0, 0, .null, [], none),
  (19, 1, .aload_n 0, 0, 0, .null, [], none),
  (20, 3, .getfield 15, 2, 2, .null, [], none),
  (23, 1, .aload_n 0, 0, 0, .null, [], none),
  (24, 3, .getfield 26, 2, 0, .null, [], none),
  (27, 1, .iconst 0, 0, 0, .int 0, [], none),
  (28, 1, .iastore, 0, 0, .null, [], none),
  (29, 1, .aload_n 0, 0, 0, .null, [], none),
  (30, 1, .dup, 0, 0, .null, [], none),
  (31, 3, .getfield 26, 2, 0, .null, [], none),
  (34, 1, .iconst 1, 0, 0, .int 1, [], none),
  (35, 1, .iadd, 0, 0, .null, [], none),
  (36, 3, .putfield 26, 2, 0, .null, [], none),
  (39, 1, .return_, 0, 0, .null, [], none)] : List xr_E), xr_sd xm_P 104 e := by
  have hc : xp_cd xm_P 104 = prog_3_method_3_code := rfl
  have ho : xp_own xm_P 104 = "ExchangeText$Kinds" := rfl
  have hm : xp_ml xm_P 104 = 3 := rfl
  exact xl_cons (xk_aload_n hc xd_104_0 rfl) <|
    xl_cons (xk_getfield (C := xm_C2) (T := xm_T2) (N := 5) hc xd_104_1 ho rfl (by decide) xm_u2 xl_368) <|
    xl_cons (xk_bipush hc xd_104_4 (by decide)) <|
    xl_cons (xk_if_icmp hc xd_104_6 (by decide)) <|
    xl_cons (xk_aload_n hc xd_104_9 rfl) <|
    xl_cons (xk_getfield (C := xm_C2) (T := xm_T2) (N := 5) hc xd_104_10 ho rfl (by decide) xm_u2 xl_364) <|
    xl_cons (xk_aload_n hc xd_104_13 rfl) <|
    xl_cons (xk_getfield (C := xm_C2) (T := xm_T2) (N := 5) hc xd_104_14 ho rfl (by decide) xm_u2 xl_368) <|
    xl_cons (xk_lload_n hc xd_104_17 rfl) <|
    xl_cons (xk_lastore hc xd_104_18) <|
    xl_cons (xk_aload_n hc xd_104_19 rfl) <|
    xl_cons (xk_getfield (C := xm_C2) (T := xm_T2) (N := 5) hc xd_104_20 ho rfl (by decide) xm_u2 xl_365) <|
    xl_cons (xk_aload_n hc xd_104_23 rfl) <|
    xl_cons (xk_getfield (C := xm_C2) (T := xm_T2) (N := 5) hc xd_104_24 ho rfl (by decide) xm_u2 xl_368) <|
    xl_cons (xk_iconst hc xd_104_27 (by decide)) <|
    xl_cons (xk_iastore hc xd_104_28) <|
    xl_cons (xk_aload_n hc xd_104_29 rfl) <|
    xl_cons (xk_dup hc xd_104_30) <|
    xl_cons (xk_getfield (C := xm_C2) (T := xm_T2) (N := 5) hc xd_104_31 ho rfl (by decide) xm_u2 xl_368) <|
    xl_cons (xk_iconst hc xd_104_34 (by decide)) <|
    xl_cons (xk_iadd hc xd_104_35) <|
    xl_cons (xk_putfield (C := xm_C2) (T := xm_T2) (N := 5) (ty := xm_ty2) hc xd_104_36 ho rfl (by decide) xm_u2 xm_tk2 rfl xm_nm2 xl_368 rfl) <|
    xl_cons (xk_return_ hc xd_104_39) (xl_nil)
theorem xo_104 : ∀ e ∈ xm_i104, xr_sd xm_P 104 e := xo_104_0
set_option maxRecDepth 100000 in
theorem xo_105_0 : ∀ e ∈ ([(0, 1, .aload_n 0, 0, 0, .null, [], none),
  (1, 3, .getfield 26, 2, 0, .null, [], none),
  (4, 1, .iconst 1, 0, 0, .int 1, [], none),
  (5, 1, .isub, 0, 0, .null, [], none),
  (6, 1, .istore_n 3, 3, 0, .null, [], none),
  (7, 1, .iload_n 3, 3, 0, .null, [], none),
  (8, 3, .ifCond .lt 53, 61, 0, .null, [], none),
  (11, 1, .aload_n 0, 0, 0, .null, [], none),
  (12, 3, .getfield 15, 2, 2, .null, [], none),
  (15, 1, .iload_n 3, 3, 0, .null, [], none),
  (16, 1, .iaload, 0, 0, .null, [], none),
  (17, 2, .bipush 8, 0, 0, .int 8, [], none),
  (19, 3, .if_icmp .ge 42, 61, 0, .null, [], none),
  (22, 1, .iload_n 3, 3, 0, .null, [], none),
  (23, 2, .bipush 8, 0, 0, .int 8, [], none),
  (25, 1, .imul, 0, 0, .null, [], none),
  (26, 1, .aload_n 0, 0, 0, .null, [], none),
  (27, 3, .getfield 15, 2, 2, .null, [], none),
  (30, 1, .iload_n 3, 3, 0, .null, [], none),
  (31, 1, .iaload, 0, 0, .null, [], none),
  (32, 1, .iadd, 0, 0, .null, [], none),
  (33, 2, .istore 4, 4, 0, .null, [], none),
  (35, 1, .aload_n 0, 0, 0, .null, [], none),
  (36, 3, .getfield 19, 2, 3, .null, [], none),
  (39, 2, .iload 4, 4, 0, .null, [], none),
  (41, 1, .iload_n 1, 1, 0, .null, [], none),
  (42, 1, .iastore, 0, 0, .null, [], none),
  (43, 1, .aload_n 0, 0, 0, .null, [], none),
  (44, 3, .getfield 22, 2, 4, .null, [], none),
  (47, 2, .iload 4, 4, 0, .null, [], none),
  (49, 1, .iload_n 2, 2, 0, .null, [], none),
  (50, 1, .bastore, 0, 0, .null, [], none),
  (51, 1, .aload_n 0, 0, 0, .null, [], none),
  (52, 3, .getfield 15, 2, 2, .null, [], none),
  (55, 1, .iload_n 3, 3, 0, .null, [], none),
  (56, 1, .dup2, 0, 0, .null, [], none),
  (57, 1, .iaload, 0, 0, .null, [], none),
  (58, 1, .iconst 1, 0, 0, .int 1, [], none),
  (59, 1, .iadd, 0, 0, .null, [], none),
  (60, 1, .iastore, 0, 0, .null, [], none)] : List xr_E), xr_sd xm_P 105 e := by
  have hc : xp_cd xm_P 105 = prog_3_method_4_code := rfl
  have ho : xp_own xm_P 105 = "ExchangeText$Kinds" := rfl
  have hm : xp_ml xm_P 105 = 5 := rfl
  exact xl_cons (xk_aload_n hc xd_105_0 rfl) <|
    xl_cons (xk_getfield (C := xm_C2) (T := xm_T2) (N := 5) hc xd_105_1 ho rfl (by decide) xm_u2 xl_368) <|
    xl_cons (xk_iconst hc xd_105_4 (by decide)) <|
    xl_cons (xk_isub hc xd_105_5) <|
    xl_cons (xk_istore_n hc xd_105_6 hm rfl (by decide)) <|
    xl_cons (xk_iload_n hc xd_105_7 rfl) <|
    xl_cons (xk_ifCond hc xd_105_8 (by decide)) <|
    xl_cons (xk_aload_n hc xd_105_11 rfl) <|
    xl_cons (xk_getfield (C := xm_C2) (T := xm_T2) (N := 5) hc xd_105_12 ho rfl (by decide) xm_u2 xl_365) <|
    xl_cons (xk_iload_n hc xd_105_15 rfl) <|
    xl_cons (xk_iaload hc xd_105_16) <|
    xl_cons (xk_bipush hc xd_105_17 (by decide)) <|
    xl_cons (xk_if_icmp hc xd_105_19 (by decide)) <|
    xl_cons (xk_iload_n hc xd_105_22 rfl) <|
    xl_cons (xk_bipush hc xd_105_23 (by decide)) <|
    xl_cons (xk_imul hc xd_105_25) <|
    xl_cons (xk_aload_n hc xd_105_26 rfl) <|
    xl_cons (xk_getfield (C := xm_C2) (T := xm_T2) (N := 5) hc xd_105_27 ho rfl (by decide) xm_u2 xl_365) <|
    xl_cons (xk_iload_n hc xd_105_30 rfl) <|
    xl_cons (xk_iaload hc xd_105_31) <|
    xl_cons (xk_iadd hc xd_105_32) <|
    xl_cons (xk_istore hc xd_105_33 hm rfl (by decide)) <|
    xl_cons (xk_aload_n hc xd_105_35 rfl) <|
    xl_cons (xk_getfield (C := xm_C2) (T := xm_T2) (N := 5) hc xd_105_36 ho rfl (by decide) xm_u2 xl_366) <|
    xl_cons (xk_iload hc xd_105_39 rfl) <|
    xl_cons (xk_iload_n hc xd_105_41 rfl) <|
    xl_cons (xk_iastore hc xd_105_42) <|
    xl_cons (xk_aload_n hc xd_105_43 rfl) <|
    xl_cons (xk_getfield (C := xm_C2) (T := xm_T2) (N := 5) hc xd_105_44 ho rfl (by decide) xm_u2 xl_367) <|
    xl_cons (xk_iload hc xd_105_47 rfl) <|
    xl_cons (xk_iload_n hc xd_105_49 rfl) <|
    xl_cons (xk_bastore hc xd_105_50) <|
    xl_cons (xk_aload_n hc xd_105_51 rfl) <|
    xl_cons (xk_getfield (C := xm_C2) (T := xm_T2) (N := 5) hc xd_105_52 ho rfl (by decide) xm_u2 xl_365) <|
    xl_cons (xk_iload_n hc xd_105_55 rfl) <|
    xl_cons (xk_dup2 hc xd_105_56) <|
    xl_cons (xk_iaload hc xd_105_57) <|
    xl_cons (xk_iconst hc xd_105_58 (by decide)) <|
    xl_cons (xk_iadd hc xd_105_59) <|
    xl_cons (xk_iastore hc xd_105_60) (xl_nil)
set_option maxRecDepth 100000 in
theorem xo_105_1 : ∀ e ∈ ([(61, 1, .return_, 0, 0, .null, [], none)] : List xr_E), xr_sd xm_P 105 e := by
  have hc : xp_cd xm_P 105 = prog_3_method_4_code := rfl
  have ho : xp_own xm_P 105 = "ExchangeText$Kinds" := rfl
  have hm : xp_ml xm_P 105 = 5 := rfl
  exact xl_cons (xk_return_ hc xd_105_61) (xl_nil)
theorem xo_105 : ∀ e ∈ xm_i105, xr_sd xm_P 105 e := xl_app xo_105_0 (xo_105_1)
set_option maxRecDepth 100000 in
theorem xo_106_0 : ∀ e ∈ ([(0, 1, .iload_n 1, 1, 0, .null, [], none),
  (1, 2, .bipush 8, 0, 0, .int 8, [], none),
  (3, 1, .imul, 0, 0, .null, [], none),
  (4, 1, .iload_n 2, 2, 0, .null, [], none),
  (5, 1, .iadd, 0, 0, .null, [], none),
  (6, 2, .istore 5, 5, 0, .null, [], none),
  (8, 1, .iload_n 3, 3, 0, .null, [], none),
  (9, 2, .bipush 6, 0, 0, .int 6, [], none),
  (11, 3, .if_icmp .ne 11, 22, 0, .null, [], none),
  (14, 1, .aload_n 0, 0, 0, .null, [], none),
  (15, 3, .getfield 22, 2, 4, .null, [], none),
  (18, 2, .iload 5, 5, 0, .null, [], none),
  (20, 1, .baload, 0, 0, .null, [], none),
  (21, 1, .ireturn, 0, 0, .null, [], none),
  (22, 1, .iload_n 3, 3, 0, .null, [], none),
  (23, 1, .aload_n 0, 0, 0, .null, [], none),
  (24, 3, .getfield 19, 2, 3, .null, [], none),
  (27, 2, .iload 5, 5, 0, .null, [], none),
  (29, 1, .iaload, 0, 0, .null, [], none),
  (30, 3, .if_icmp .eq 24, 54, 0, .null, [], none),
  (33, 1, .iload_n 3, 3, 0, .null, [], none),
  (34, 1, .iconst 3, 0, 0, .int 3, [], none),
  (35, 3, .if_icmp .ne 23, 58, 0, .null, [], none),
  (38, 2, .iload 4, 4, 0, .null, [], none),
  (40, 3, .ifCond .ne 18, 58, 0, .null, [], none),
  (43, 1, .aload_n 0, 0, 0, .null, [], none),
  (44, 3, .getfield 19, 2, 3, .null, [], none),
  (47, 2, .iload 5, 5, 0, .null, [], none),
  (49, 1, .iaload, 0, 0, .null, [], none),
  (50, 1, .iconst 4, 0, 0, .int 4, [], none),
  (51, 3, .if_icmp .ne 7, 58, 0, .null, [], none),
  (54, 1, .iconst 1, 0, 0, .int 1, [], none),
  (55, 3, .goto 4, 59, 0, .null, [], none),
  (58, 1, .iconst 0, 0, 0, .int 0, [], none),
  (59, 1, .ireturn, 0, 0, .null, [], none)] : List xr_E), xr_sd xm_P 106 e := by
  have hc : xp_cd xm_P 106 = prog_3_method_5_code := rfl
  have ho : xp_own xm_P 106 = "ExchangeText$Kinds" := rfl
  have hm : xp_ml xm_P 106 = 6 := rfl
  exact xl_cons (xk_iload_n hc xd_106_0 rfl) <|
    xl_cons (xk_bipush hc xd_106_1 (by decide)) <|
    xl_cons (xk_imul hc xd_106_3) <|
    xl_cons (xk_iload_n hc xd_106_4 rfl) <|
    xl_cons (xk_iadd hc xd_106_5) <|
    xl_cons (xk_istore hc xd_106_6 hm rfl (by decide)) <|
    xl_cons (xk_iload_n hc xd_106_8 rfl) <|
    xl_cons (xk_bipush hc xd_106_9 (by decide)) <|
    xl_cons (xk_if_icmp hc xd_106_11 (by decide)) <|
    xl_cons (xk_aload_n hc xd_106_14 rfl) <|
    xl_cons (xk_getfield (C := xm_C2) (T := xm_T2) (N := 5) hc xd_106_15 ho rfl (by decide) xm_u2 xl_367) <|
    xl_cons (xk_iload hc xd_106_18 rfl) <|
    xl_cons (xk_baload hc xd_106_20) <|
    xl_cons (xk_ireturn hc xd_106_21) <|
    xl_cons (xk_iload_n hc xd_106_22 rfl) <|
    xl_cons (xk_aload_n hc xd_106_23 rfl) <|
    xl_cons (xk_getfield (C := xm_C2) (T := xm_T2) (N := 5) hc xd_106_24 ho rfl (by decide) xm_u2 xl_366) <|
    xl_cons (xk_iload hc xd_106_27 rfl) <|
    xl_cons (xk_iaload hc xd_106_29) <|
    xl_cons (xk_if_icmp hc xd_106_30 (by decide)) <|
    xl_cons (xk_iload_n hc xd_106_33 rfl) <|
    xl_cons (xk_iconst hc xd_106_34 (by decide)) <|
    xl_cons (xk_if_icmp hc xd_106_35 (by decide)) <|
    xl_cons (xk_iload hc xd_106_38 rfl) <|
    xl_cons (xk_ifCond hc xd_106_40 (by decide)) <|
    xl_cons (xk_aload_n hc xd_106_43 rfl) <|
    xl_cons (xk_getfield (C := xm_C2) (T := xm_T2) (N := 5) hc xd_106_44 ho rfl (by decide) xm_u2 xl_366) <|
    xl_cons (xk_iload hc xd_106_47 rfl) <|
    xl_cons (xk_iaload hc xd_106_49) <|
    xl_cons (xk_iconst hc xd_106_50 (by decide)) <|
    xl_cons (xk_if_icmp hc xd_106_51 (by decide)) <|
    xl_cons (xk_iconst hc xd_106_54 (by decide)) <|
    xl_cons (xk_goto hc xd_106_55 (by decide)) <|
    xl_cons (xk_iconst hc xd_106_58 (by decide)) <|
    xl_cons (xk_ireturn hc xd_106_59) (xl_nil)
theorem xo_106 : ∀ e ∈ xm_i106, xr_sd xm_P 106 e := xo_106_0
set_option maxRecDepth 100000 in
theorem xo_107_0 : ∀ e ∈ ([(0, 1, .aload_n 0, 0, 0, .null, [], none),
  (1, 1, .aload_n 1, 1, 0, .null, [], none),
  (2, 3, .getfield 26, 2, 0, .null, [], none),
  (5, 3, .putfield 26, 2, 0, .null, [], none),
  (8, 1, .aload_n 1, 1, 0, .null, [], none),
  (9, 3, .getfield 9, 2, 1, .null, [], none),
  (12, 1, .iconst 0, 0, 0, .int 0, [], none),
  (13, 1, .aload_n 0, 0, 0, .null, [], none),
  (14, 3, .getfield 9, 2, 1, .null, [], none),
  (17, 1, .iconst 0, 0, 0, .int 0, [], none),
  (18, 2, .bipush 12, 0, 0, .int 12, [], none),
  (20, 3, .invokestatic 30, 0, 0, .int 3, [], none),
  (23, 1, .aload_n 1, 1, 0, .null, [], none),
  (24, 3, .getfield 15, 2, 2, .null, [], none),
  (27, 1, .iconst 0, 0, 0, .int 0, [], none),
  (28, 1, .aload_n 0, 0, 0, .null, [], none),
  (29, 3, .getfield 15, 2, 2, .null, [], none),
  (32, 1, .iconst 0, 0, 0, .int 0, [], none),
  (33, 2, .bipush 12, 0, 0, .int 12, [], none),
  (35, 3, .invokestatic 30, 0, 0, .int 3, [], none),
  (38, 1, .iconst 0, 0, 0, .int 0, [], none),
  (39, 1, .istore_n 2, 2, 0, .null, [], none),
  (40, 1, .iload_n 2, 2, 0, .null, [], none),
  (41, 1, .aload_n 0, 0, 0, .null, [], none),
  (42, 3, .getfield 26, 2, 0, .null, [], none),
  (45, 2, .bipush 8, 0, 0, .int 8, [], none),
  (47, 1, .imul, 0, 0, .null, [], none),
  (48, 3, .if_icmp .ge 33, 81, 0, .null, [], none),
  (51, 1, .aload_n 0, 0, 0, .null, [], none),
  (52, 3, .getfield 19, 2, 3, .null, [], none),
  (55, 1, .iload_n 2, 2, 0, .null, [], none),
  (56, 1, .aload_n 1, 1, 0, .null, [], none),
  (57, 3, .getfield 19, 2, 3, .null, [], none),
  (60, 1, .iload_n 2, 2, 0, .null, [], none),
  (61, 1, .iaload, 0, 0, .null, [], none),
  (62, 1, .iastore, 0, 0, .null, [], none),
  (63, 1, .aload_n 0, 0, 0, .null, [], none),
  (64, 3, .getfield 22, 2, 4, .null, [], none),
  (67, 1, .iload_n 2, 2, 0, .null, [], none),
  (68, 1, .aload_n 1, 1, 0, .null, [], none)] : List xr_E), xr_sd xm_P 107 e := by
  have hc : xp_cd xm_P 107 = prog_3_method_6_code := rfl
  have ho : xp_own xm_P 107 = "ExchangeText$Kinds" := rfl
  have hm : xp_ml xm_P 107 = 3 := rfl
  exact xl_cons (xk_aload_n hc xd_107_0 rfl) <|
    xl_cons (xk_aload_n hc xd_107_1 rfl) <|
    xl_cons (xk_getfield (C := xm_C2) (T := xm_T2) (N := 5) hc xd_107_2 ho rfl (by decide) xm_u2 xl_368) <|
    xl_cons (xk_putfield (C := xm_C2) (T := xm_T2) (N := 5) (ty := xm_ty2) hc xd_107_5 ho rfl (by decide) xm_u2 xm_tk2 rfl xm_nm2 xl_368 rfl) <|
    xl_cons (xk_aload_n hc xd_107_8 rfl) <|
    xl_cons (xk_getfield (C := xm_C2) (T := xm_T2) (N := 5) hc xd_107_9 ho rfl (by decide) xm_u2 xl_364) <|
    xl_cons (xk_iconst hc xd_107_12 (by decide)) <|
    xl_cons (xk_aload_n hc xd_107_13 rfl) <|
    xl_cons (xk_getfield (C := xm_C2) (T := xm_T2) (N := 5) hc xd_107_14 ho rfl (by decide) xm_u2 xl_364) <|
    xl_cons (xk_iconst hc xd_107_17 (by decide)) <|
    xl_cons (xk_bipush hc xd_107_18 (by decide)) <|
    xl_cons (xk_copy hc xd_107_20 ho xm_rl107 xl_369 xl_370 xl_371 xl_372) <|
    xl_cons (xk_aload_n hc xd_107_23 rfl) <|
    xl_cons (xk_getfield (C := xm_C2) (T := xm_T2) (N := 5) hc xd_107_24 ho rfl (by decide) xm_u2 xl_365) <|
    xl_cons (xk_iconst hc xd_107_27 (by decide)) <|
    xl_cons (xk_aload_n hc xd_107_28 rfl) <|
    xl_cons (xk_getfield (C := xm_C2) (T := xm_T2) (N := 5) hc xd_107_29 ho rfl (by decide) xm_u2 xl_365) <|
    xl_cons (xk_iconst hc xd_107_32 (by decide)) <|
    xl_cons (xk_bipush hc xd_107_33 (by decide)) <|
    xl_cons (xk_copy hc xd_107_35 ho xm_rl107 xl_369 xl_370 xl_371 xl_372) <|
    xl_cons (xk_iconst hc xd_107_38 (by decide)) <|
    xl_cons (xk_istore_n hc xd_107_39 hm rfl (by decide)) <|
    xl_cons (xk_iload_n hc xd_107_40 rfl) <|
    xl_cons (xk_aload_n hc xd_107_41 rfl) <|
    xl_cons (xk_getfield (C := xm_C2) (T := xm_T2) (N := 5) hc xd_107_42 ho rfl (by decide) xm_u2 xl_368) <|
    xl_cons (xk_bipush hc xd_107_45 (by decide)) <|
    xl_cons (xk_imul hc xd_107_47) <|
    xl_cons (xk_if_icmp hc xd_107_48 (by decide)) <|
    xl_cons (xk_aload_n hc xd_107_51 rfl) <|
    xl_cons (xk_getfield (C := xm_C2) (T := xm_T2) (N := 5) hc xd_107_52 ho rfl (by decide) xm_u2 xl_366) <|
    xl_cons (xk_iload_n hc xd_107_55 rfl) <|
    xl_cons (xk_aload_n hc xd_107_56 rfl) <|
    xl_cons (xk_getfield (C := xm_C2) (T := xm_T2) (N := 5) hc xd_107_57 ho rfl (by decide) xm_u2 xl_366) <|
    xl_cons (xk_iload_n hc xd_107_60 rfl) <|
    xl_cons (xk_iaload hc xd_107_61) <|
    xl_cons (xk_iastore hc xd_107_62) <|
    xl_cons (xk_aload_n hc xd_107_63 rfl) <|
    xl_cons (xk_getfield (C := xm_C2) (T := xm_T2) (N := 5) hc xd_107_64 ho rfl (by decide) xm_u2 xl_367) <|
    xl_cons (xk_iload_n hc xd_107_67 rfl) <|
    xl_cons (xk_aload_n hc xd_107_68 rfl) (xl_nil)
set_option maxRecDepth 100000 in
theorem xo_107_1 : ∀ e ∈ ([(69, 3, .getfield 22, 2, 4, .null, [], none),
  (72, 1, .iload_n 2, 2, 0, .null, [], none),
  (73, 1, .baload, 0, 0, .null, [], none),
  (74, 1, .bastore, 0, 0, .null, [], none),
  (75, 3, .iinc 2 1, 2, 0, .int 1, [], none),
  (78, 3, .goto (-38), 40, 0, .null, [], none),
  (81, 1, .return_, 0, 0, .null, [], none)] : List xr_E), xr_sd xm_P 107 e := by
  have hc : xp_cd xm_P 107 = prog_3_method_6_code := rfl
  have ho : xp_own xm_P 107 = "ExchangeText$Kinds" := rfl
  have hm : xp_ml xm_P 107 = 3 := rfl
  exact xl_cons (xk_getfield (C := xm_C2) (T := xm_T2) (N := 5) hc xd_107_69 ho rfl (by decide) xm_u2 xl_367) <|
    xl_cons (xk_iload_n hc xd_107_72 rfl) <|
    xl_cons (xk_baload hc xd_107_73) <|
    xl_cons (xk_bastore hc xd_107_74) <|
    xl_cons (xk_iinc hc xd_107_75 hm rfl (by decide) (by decide)) <|
    xl_cons (xk_goto hc xd_107_78 (by decide)) <|
    xl_cons (xk_return_ hc xd_107_81) (xl_nil)
theorem xo_107 : ∀ e ∈ xm_i107, xr_sd xm_P 107 e := xl_app xo_107_0 (xo_107_1)
set_option maxRecDepth 100000 in
theorem xo_108_0 : ∀ e ∈ ([(0, 1, .aload_n 0, 0, 0, .null, [], none),
  (1, 3, .invokespecial 1, 0, 0, .int 1, [], none),
  (4, 1, .aload_n 0, 0, 0, .null, [], none),
  (5, 1, .iload_n 1, 1, 0, .null, [], none),
  (6, 3, .ifCond .ge 7, 13, 0, .null, [], none),
  (9, 1, .iconst 0, 0, 0, .int 0, [], none),
  (10, 3, .goto 4, 14, 0, .null, [], none),
  (13, 1, .iload_n 1, 1, 0, .null, [], none),
  (14, 2, .newarray .int, 0, 0, .null, [], none),
  (16, 3, .putfield 7, 5, 0, .null, [], none),
  (19, 1, .return_, 0, 0, .null, [], none)] : List xr_E), xr_sd xm_P 108 e := by
  have hc : xp_cd xm_P 108 = prog_4_method_1_code := rfl
  have ho : xp_own xm_P 108 = "ExchangeText$Leads" := rfl
  have hm : xp_ml xm_P 108 = 2 := rfl
  exact xl_cons (xk_aload_n hc xd_108_0 rfl) <|
    xl_cons (xk_objInit hc xd_108_1 ho xm_rl108 xl_373 xl_1 xl_2) <|
    xl_cons (xk_aload_n hc xd_108_4 rfl) <|
    xl_cons (xk_iload_n hc xd_108_5 rfl) <|
    xl_cons (xk_ifCond hc xd_108_6 (by decide)) <|
    xl_cons (xk_iconst hc xd_108_9 (by decide)) <|
    xl_cons (xk_goto hc xd_108_10 (by decide)) <|
    xl_cons (xk_iload_n hc xd_108_13 rfl) <|
    xl_cons (xk_newarray hc xd_108_14 (by decide) rfl xl_177) <|
    xl_cons (xk_putfieldF (C := xm_C5) (T := xm_T5) (N := 1) (ty := xm_ty5) hc xd_108_16 ho rfl (by decide) xm_u5 xm_tk5 rfl xm_nm5 xl_374 rfl rfl rfl) <|
    xl_cons (xk_return_ hc xd_108_19) (xl_nil)
theorem xo_108 : ∀ e ∈ xm_i108, xr_sd xm_P 108 e := xo_108_0
set_option maxRecDepth 100000 in
theorem xo_109_0 : ∀ e ∈ ([(0, 1, .iload_n 1, 1, 0, .null, [], none),
  (1, 3, .ifCond .lt 21, 22, 0, .null, [], none),
  (4, 1, .iload_n 1, 1, 0, .null, [], none),
  (5, 1, .aload_n 0, 0, 0, .null, [], none),
  (6, 3, .getfield 7, 5, 0, .null, [], none),
  (9, 1, .arraylength, 0, 0, .null, [], none),
  (10, 3, .if_icmp .ge 12, 22, 0, .null, [], none),
  (13, 1, .aload_n 0, 0, 0, .null, [], none),
  (14, 3, .getfield 7, 5, 0, .null, [], none),
  (17, 1, .iload_n 1, 1, 0, .null, [], none),
  (18, 1, .iaload, 0, 0, .null, [], none),
  (19, 3, .goto 4, 23, 0, .null, [], none),
  (22, 1, .iload_n 1, 1, 0, .null, [], none),
  (23, 1, .ireturn, 0, 0, .null, [], none)] : List xr_E), xr_sd xm_P 109 e := by
  have hc : xp_cd xm_P 109 = prog_4_method_2_code := rfl
  have ho : xp_own xm_P 109 = "ExchangeText$Leads" := rfl
  have hm : xp_ml xm_P 109 = 2 := rfl
  exact xl_cons (xk_iload_n hc xd_109_0 rfl) <|
    xl_cons (xk_ifCond hc xd_109_1 (by decide)) <|
    xl_cons (xk_iload_n hc xd_109_4 rfl) <|
    xl_cons (xk_aload_n hc xd_109_5 rfl) <|
    xl_cons (xk_getfield (C := xm_C5) (T := xm_T5) (N := 1) hc xd_109_6 ho rfl (by decide) xm_u5 xl_374) <|
    xl_cons (xk_arraylength hc xd_109_9) <|
    xl_cons (xk_if_icmp hc xd_109_10 (by decide)) <|
    xl_cons (xk_aload_n hc xd_109_13 rfl) <|
    xl_cons (xk_getfield (C := xm_C5) (T := xm_T5) (N := 1) hc xd_109_14 ho rfl (by decide) xm_u5 xl_374) <|
    xl_cons (xk_iload_n hc xd_109_17 rfl) <|
    xl_cons (xk_iaload hc xd_109_18) <|
    xl_cons (xk_goto hc xd_109_19 (by decide)) <|
    xl_cons (xk_iload_n hc xd_109_22 rfl) <|
    xl_cons (xk_ireturn hc xd_109_23) (xl_nil)
theorem xo_109 : ∀ e ∈ xm_i109, xr_sd xm_P 109 e := xo_109_0
set_option maxRecDepth 100000 in
theorem xo_110_0 : ∀ e ∈ ([(0, 1, .iload_n 1, 1, 0, .null, [], none),
  (1, 3, .ifCond .lt 19, 20, 0, .null, [], none),
  (4, 1, .iload_n 1, 1, 0, .null, [], none),
  (5, 1, .aload_n 0, 0, 0, .null, [], none),
  (6, 3, .getfield 7, 5, 0, .null, [], none),
  (9, 1, .arraylength, 0, 0, .null, [], none),
  (10, 3, .if_icmp .ge 10, 20, 0, .null, [], none),
  (13, 1, .aload_n 0, 0, 0, .null, [], none),
  (14, 3, .getfield 7, 5, 0, .null, [], none),
  (17, 1, .iload_n 1, 1, 0, .null, [], none),
  (18, 1, .iload_n 2, 2, 0, .null, [], none),
  (19, 1, .iastore, 0, 0, .null, [], none),
  (20, 1, .return_, 0, 0, .null, [], none)] : List xr_E), xr_sd xm_P 110 e := by
  have hc : xp_cd xm_P 110 = prog_4_method_3_code := rfl
  have ho : xp_own xm_P 110 = "ExchangeText$Leads" := rfl
  have hm : xp_ml xm_P 110 = 3 := rfl
  exact xl_cons (xk_iload_n hc xd_110_0 rfl) <|
    xl_cons (xk_ifCond hc xd_110_1 (by decide)) <|
    xl_cons (xk_iload_n hc xd_110_4 rfl) <|
    xl_cons (xk_aload_n hc xd_110_5 rfl) <|
    xl_cons (xk_getfield (C := xm_C5) (T := xm_T5) (N := 1) hc xd_110_6 ho rfl (by decide) xm_u5 xl_374) <|
    xl_cons (xk_arraylength hc xd_110_9) <|
    xl_cons (xk_if_icmp hc xd_110_10 (by decide)) <|
    xl_cons (xk_aload_n hc xd_110_13 rfl) <|
    xl_cons (xk_getfield (C := xm_C5) (T := xm_T5) (N := 1) hc xd_110_14 ho rfl (by decide) xm_u5 xl_374) <|
    xl_cons (xk_iload_n hc xd_110_17 rfl) <|
    xl_cons (xk_iload_n hc xd_110_18 rfl) <|
    xl_cons (xk_iastore hc xd_110_19) <|
    xl_cons (xk_return_ hc xd_110_20) (xl_nil)
theorem xo_110 : ∀ e ∈ xm_i110, xr_sd xm_P 110 e := xo_110_0
set_option maxRecDepth 100000 in
theorem xo_111_0 : ∀ e ∈ ([(0, 1, .aload_n 0, 0, 0, .null, [], none),
  (1, 3, .invokespecial 3, 0, 0, .int 1, [], none),
  (4, 1, .aload_n 0, 0, 0, .null, [], none),
  (5, 2, .bipush 40, 0, 0, .int 40, [], none),
  (7, 2, .newarray .int, 0, 0, .null, [], none),
  (9, 3, .putfield 9, 3, 3, .null, [], none),
  (12, 1, .aload_n 0, 0, 0, .null, [], none),
  (13, 2, .bipush 40, 0, 0, .int 40, [], none),
  (15, 2, .newarray .long, 1, 0, .null, [], none),
  (17, 3, .putfield 15, 3, 4, .null, [], none),
  (20, 1, .aload_n 0, 0, 0, .null, [], none),
  (21, 2, .bipush 40, 0, 0, .int 40, [], none),
  (23, 2, .newarray .int, 0, 0, .null, [], none),
  (25, 3, .putfield 19, 3, 5, .null, [], none),
  (28, 1, .aload_n 0, 0, 0, .null, [], none),
  (29, 2, .bipush 40, 0, 0, .int 40, [], none),
  (31, 2, .newarray .int, 0, 0, .null, [], none),
  (33, 3, .putfield 22, 3, 6, .null, [], none),
  (36, 1, .aload_n 0, 0, 0, .null, [], none),
  (37, 3, .sipush 320, 0, 0, .int 320, [], none),
  (40, 2, .newarray .int, 0, 0, .null, [], none),
  (42, 3, .putfield 25, 3, 7, .null, [], none),
  (45, 1, .aload_n 0, 0, 0, .null, [], none),
  (46, 3, .sipush 320, 0, 0, .int 320, [], none),
  (49, 2, .newarray .int, 0, 0, .null, [], none),
  (51, 3, .putfield 28, 3, 8, .null, [], none),
  (54, 1, .aload_n 0, 0, 0, .null, [], none),
  (55, 3, .sipush 320, 0, 0, .int 320, [], none),
  (58, 2, .newarray .int, 0, 0, .null, [], none),
  (60, 3, .putfield 31, 3, 9, .null, [], none),
  (63, 1, .aload_n 0, 0, 0, .null, [], none),
  (64, 3, .sipush 1200, 0, 0, .int 1200, [], none),
  (67, 2, .newarray .int, 0, 0, .null, [], none),
  (69, 3, .putfield 34, 3, 10, .null, [], none),
  (72, 1, .return_, 0, 0, .null, [], none)] : List xr_E), xr_sd xm_P 111 e := by
  have hc : xp_cd xm_P 111 = prog_5_method_1_code := rfl
  have ho : xp_own xm_P 111 = "ExchangeText$Model" := rfl
  have hm : xp_ml xm_P 111 = 1 := rfl
  exact xl_cons (xk_aload_n hc xd_111_0 rfl) <|
    xl_cons (xk_objInit hc xd_111_1 ho xm_rl111 xl_375 xl_1 xl_2) <|
    xl_cons (xk_aload_n hc xd_111_4 rfl) <|
    xl_cons (xk_bipush hc xd_111_5 (by decide)) <|
    xl_cons (xk_newarray hc xd_111_7 (by decide) rfl xl_177) <|
    xl_cons (xk_putfieldF (C := xm_C3) (T := xm_T3) (N := 11) (ty := xm_ty3) hc xd_111_9 ho rfl (by decide) xm_u3 xm_tk3 rfl xm_nm3 xl_376 rfl rfl rfl) <|
    xl_cons (xk_aload_n hc xd_111_12 rfl) <|
    xl_cons (xk_bipush hc xd_111_13 (by decide)) <|
    xl_cons (xk_newarray hc xd_111_15 (by decide) rfl xl_197) <|
    xl_cons (xk_putfieldF (C := xm_C3) (T := xm_T3) (N := 11) (ty := xm_ty3) hc xd_111_17 ho rfl (by decide) xm_u3 xm_tk3 rfl xm_nm3 xl_377 rfl rfl rfl) <|
    xl_cons (xk_aload_n hc xd_111_20 rfl) <|
    xl_cons (xk_bipush hc xd_111_21 (by decide)) <|
    xl_cons (xk_newarray hc xd_111_23 (by decide) rfl xl_177) <|
    xl_cons (xk_putfieldF (C := xm_C3) (T := xm_T3) (N := 11) (ty := xm_ty3) hc xd_111_25 ho rfl (by decide) xm_u3 xm_tk3 rfl xm_nm3 xl_378 rfl rfl rfl) <|
    xl_cons (xk_aload_n hc xd_111_28 rfl) <|
    xl_cons (xk_bipush hc xd_111_29 (by decide)) <|
    xl_cons (xk_newarray hc xd_111_31 (by decide) rfl xl_177) <|
    xl_cons (xk_putfieldF (C := xm_C3) (T := xm_T3) (N := 11) (ty := xm_ty3) hc xd_111_33 ho rfl (by decide) xm_u3 xm_tk3 rfl xm_nm3 xl_379 rfl rfl rfl) <|
    xl_cons (xk_aload_n hc xd_111_36 rfl) <|
    xl_cons (xk_sipush hc xd_111_37 (by decide)) <|
    xl_cons (xk_newarray hc xd_111_40 (by decide) rfl xl_177) <|
    xl_cons (xk_putfieldF (C := xm_C3) (T := xm_T3) (N := 11) (ty := xm_ty3) hc xd_111_42 ho rfl (by decide) xm_u3 xm_tk3 rfl xm_nm3 xl_380 rfl rfl rfl) <|
    xl_cons (xk_aload_n hc xd_111_45 rfl) <|
    xl_cons (xk_sipush hc xd_111_46 (by decide)) <|
    xl_cons (xk_newarray hc xd_111_49 (by decide) rfl xl_177) <|
    xl_cons (xk_putfieldF (C := xm_C3) (T := xm_T3) (N := 11) (ty := xm_ty3) hc xd_111_51 ho rfl (by decide) xm_u3 xm_tk3 rfl xm_nm3 xl_381 rfl rfl rfl) <|
    xl_cons (xk_aload_n hc xd_111_54 rfl) <|
    xl_cons (xk_sipush hc xd_111_55 (by decide)) <|
    xl_cons (xk_newarray hc xd_111_58 (by decide) rfl xl_177) <|
    xl_cons (xk_putfieldF (C := xm_C3) (T := xm_T3) (N := 11) (ty := xm_ty3) hc xd_111_60 ho rfl (by decide) xm_u3 xm_tk3 rfl xm_nm3 xl_382 rfl rfl rfl) <|
    xl_cons (xk_aload_n hc xd_111_63 rfl) <|
    xl_cons (xk_sipush hc xd_111_64 (by decide)) <|
    xl_cons (xk_newarray hc xd_111_67 (by decide) rfl xl_177) <|
    xl_cons (xk_putfieldF (C := xm_C3) (T := xm_T3) (N := 11) (ty := xm_ty3) hc xd_111_69 ho rfl (by decide) xm_u3 xm_tk3 rfl xm_nm3 xl_383 rfl rfl rfl) <|
    xl_cons (xk_return_ hc xd_111_72) (xl_nil)
theorem xo_111 : ∀ e ∈ xm_i111, xr_sd xm_P 111 e := xo_111_0
set_option maxRecDepth 100000 in
theorem xo_112_0 : ∀ e ∈ ([(0, 1, .aload_n 0, 0, 0, .null, [], none),
  (1, 1, .iconst 0, 0, 0, .int 0, [], none),
  (2, 3, .putfield 37, 3, 0, .null, [], none),
  (5, 1, .aload_n 0, 0, 0, .null, [], none),
  (6, 1, .iconst 0, 0, 0, .int 0, [], none),
  (7, 3, .putfield 41, 3, 1, .null, [], none),
  (10, 1, .aload_n 0, 0, 0, .null, [], none),
  (11, 1, .iconst 0, 0, 0, .int 0, [], none),
  (12, 3, .putfield 44, 3, 2, .null, [], none),
  (15, 1, .return_, 0, 0, .null, [], none)] : List xr_E), xr_sd xm_P 112 e := by
  have hc : xp_cd xm_P 112 = prog_5_method_2_code := rfl
  have ho : xp_own xm_P 112 = "ExchangeText$Model" := rfl
  have hm : xp_ml xm_P 112 = 1 := rfl
  exact xl_cons (xk_aload_n hc xd_112_0 rfl) <|
    xl_cons (xk_iconst hc xd_112_1 (by decide)) <|
    xl_cons (xk_putfield (C := xm_C3) (T := xm_T3) (N := 11) (ty := xm_ty3) hc xd_112_2 ho rfl (by decide) xm_u3 xm_tk3 rfl xm_nm3 xl_384 rfl) <|
    xl_cons (xk_aload_n hc xd_112_5 rfl) <|
    xl_cons (xk_iconst hc xd_112_6 (by decide)) <|
    xl_cons (xk_putfield (C := xm_C3) (T := xm_T3) (N := 11) (ty := xm_ty3) hc xd_112_7 ho rfl (by decide) xm_u3 xm_tk3 rfl xm_nm3 xl_385 rfl) <|
    xl_cons (xk_aload_n hc xd_112_10 rfl) <|
    xl_cons (xk_iconst hc xd_112_11 (by decide)) <|
    xl_cons (xk_putfield (C := xm_C3) (T := xm_T3) (N := 11) (ty := xm_ty3) hc xd_112_12 ho rfl (by decide) xm_u3 xm_tk3 rfl xm_nm3 xl_386 rfl) <|
    xl_cons (xk_return_ hc xd_112_15) (xl_nil)
theorem xo_112 : ∀ e ∈ xm_i112, xr_sd xm_P 112 e := xo_112_0
set_option maxRecDepth 100000 in
theorem xo_113_0 : ∀ e ∈ ([(0, 1, .iload_n 1, 1, 0, .null, [], none),
  (1, 3, .ifCond .lt 20, 21, 0, .null, [], none),
  (4, 1, .iload_n 1, 1, 0, .null, [], none),
  (5, 1, .aload_n 0, 0, 0, .null, [], none),
  (6, 3, .getfield 41, 3, 1, .null, [], none),
  (9, 3, .if_icmp .ge 12, 21, 0, .null, [], none),
  (12, 1, .aload_n 0, 0, 0, .null, [], none),
  (13, 3, .getfield 22, 3, 6, .null, [], none),
  (16, 1, .iload_n 1, 1, 0, .null, [], none),
  (17, 1, .iaload, 0, 0, .null, [], none),
  (18, 3, .goto 4, 22, 0, .null, [], none),
  (21, 1, .iconst (-1), 0, 0, .int (-1), [], none),
  (22, 1, .ireturn, 0, 0, .null, [], none)] : List xr_E), xr_sd xm_P 113 e := by
  have hc : xp_cd xm_P 113 = prog_5_method_3_code := rfl
  have ho : xp_own xm_P 113 = "ExchangeText$Model" := rfl
  have hm : xp_ml xm_P 113 = 2 := rfl
  exact xl_cons (xk_iload_n hc xd_113_0 rfl) <|
    xl_cons (xk_ifCond hc xd_113_1 (by decide)) <|
    xl_cons (xk_iload_n hc xd_113_4 rfl) <|
    xl_cons (xk_aload_n hc xd_113_5 rfl) <|
    xl_cons (xk_getfield (C := xm_C3) (T := xm_T3) (N := 11) hc xd_113_6 ho rfl (by decide) xm_u3 xl_385) <|
    xl_cons (xk_if_icmp hc xd_113_9 (by decide)) <|
    xl_cons (xk_aload_n hc xd_113_12 rfl) <|
    xl_cons (xk_getfield (C := xm_C3) (T := xm_T3) (N := 11) hc xd_113_13 ho rfl (by decide) xm_u3 xl_379) <|
    xl_cons (xk_iload_n hc xd_113_16 rfl) <|
    xl_cons (xk_iaload hc xd_113_17) <|
    xl_cons (xk_goto hc xd_113_18 (by decide)) <|
    xl_cons (xk_iconst hc xd_113_21 (by decide)) <|
    xl_cons (xk_ireturn hc xd_113_22) (xl_nil)
theorem xo_113 : ∀ e ∈ xm_i113, xr_sd xm_P 113 e := xo_113_0
set_option maxRecDepth 100000 in
theorem xo_114_0 : ∀ e ∈ ([(0, 1, .iconst 0, 0, 0, .int 0, [], none),
  (1, 1, .istore_n 2, 2, 0, .null, [], none),
  (2, 1, .iload_n 2, 2, 0, .null, [], none),
  (3, 1, .aload_n 0, 0, 0, .null, [], none),
  (4, 3, .getfield 41, 3, 1, .null, [], none),
  (7, 3, .if_icmp .ge 31, 38, 0, .null, [], none),
  (10, 1, .aload_n 0, 0, 0, .null, [], none),
  (11, 3, .getfield 9, 3, 3, .null, [], none),
  (14, 1, .aload_n 0, 0, 0, .null, [], none),
  (15, 3, .getfield 22, 3, 6, .null, [], none),
  (18, 1, .iload_n 2, 2, 0, .null, [], none),
  (19, 1, .iaload, 0, 0, .null, [], none),
  (20, 1, .iaload, 0, 0, .null, [], none),
  (21, 1, .iload_n 1, 1, 0, .null, [], none),
  (22, 3, .if_icmp .ne 10, 32, 0, .null, [], none),
  (25, 1, .aload_n 0, 0, 0, .null, [], none),
  (26, 3, .getfield 22, 3, 6, .null, [], none),
  (29, 1, .iload_n 2, 2, 0, .null, [], none),
  (30, 1, .iaload, 0, 0, .null, [], none),
  (31, 1, .ireturn, 0, 0, .null, [], none),
  (32, 3, .iinc 2 1, 2, 0, .int 1, [], none),
  (35, 3, .goto (-33), 2, 0, .null, [], none),
  (38, 1, .iconst (-1), 0, 0, .int (-1), [], none),
  (39, 1, .ireturn, 0, 0, .null, [], none)] : List xr_E), xr_sd xm_P 114 e := by
  have hc : xp_cd xm_P 114 = prog_5_method_4_code := rfl
  have ho : xp_own xm_P 114 = "ExchangeText$Model" := rfl
  have hm : xp_ml xm_P 114 = 3 := rfl
  exact xl_cons (xk_iconst hc xd_114_0 (by decide)) <|
    xl_cons (xk_istore_n hc xd_114_1 hm rfl (by decide)) <|
    xl_cons (xk_iload_n hc xd_114_2 rfl) <|
    xl_cons (xk_aload_n hc xd_114_3 rfl) <|
    xl_cons (xk_getfield (C := xm_C3) (T := xm_T3) (N := 11) hc xd_114_4 ho rfl (by decide) xm_u3 xl_385) <|
    xl_cons (xk_if_icmp hc xd_114_7 (by decide)) <|
    xl_cons (xk_aload_n hc xd_114_10 rfl) <|
    xl_cons (xk_getfield (C := xm_C3) (T := xm_T3) (N := 11) hc xd_114_11 ho rfl (by decide) xm_u3 xl_376) <|
    xl_cons (xk_aload_n hc xd_114_14 rfl) <|
    xl_cons (xk_getfield (C := xm_C3) (T := xm_T3) (N := 11) hc xd_114_15 ho rfl (by decide) xm_u3 xl_379) <|
    xl_cons (xk_iload_n hc xd_114_18 rfl) <|
    xl_cons (xk_iaload hc xd_114_19) <|
    xl_cons (xk_iaload hc xd_114_20) <|
    xl_cons (xk_iload_n hc xd_114_21 rfl) <|
    xl_cons (xk_if_icmp hc xd_114_22 (by decide)) <|
    xl_cons (xk_aload_n hc xd_114_25 rfl) <|
    xl_cons (xk_getfield (C := xm_C3) (T := xm_T3) (N := 11) hc xd_114_26 ho rfl (by decide) xm_u3 xl_379) <|
    xl_cons (xk_iload_n hc xd_114_29 rfl) <|
    xl_cons (xk_iaload hc xd_114_30) <|
    xl_cons (xk_ireturn hc xd_114_31) <|
    xl_cons (xk_iinc hc xd_114_32 hm rfl (by decide) (by decide)) <|
    xl_cons (xk_goto hc xd_114_35 (by decide)) <|
    xl_cons (xk_iconst hc xd_114_38 (by decide)) <|
    xl_cons (xk_ireturn hc xd_114_39) (xl_nil)
theorem xo_114 : ∀ e ∈ xm_i114, xr_sd xm_P 114 e := xo_114_0
set_option maxRecDepth 100000 in
theorem xo_115_0 : ∀ e ∈ ([(0, 1, .aload_n 0, 0, 0, .null, [], none),
  (1, 3, .getfield 37, 3, 0, .null, [], none),
  (4, 2, .bipush 40, 0, 0, .int 40, [], none),
  (6, 3, .if_icmp .lt 4, 10, 0, .null, [], none),
  (9, 1, .return_, 0, 0, .null, [], none),
  (10, 1, .aload_n 0, 0, 0, .null, [], none),
  (11, 3, .getfield 41, 3, 1, .null, [], none),
  (14, 2, .istore 4, 4, 0, .null, [], none),
  (16, 2, .iload 4, 4, 0, .null, [], none),
  (18, 3, .ifCond .le 43, 61, 0, .null, [], none),
  (21, 1, .aload_n 0, 0, 0, .null, [], none),
  (22, 3, .getfield 9, 3, 3, .null, [], none),
  (25, 1, .aload_n 0, 0, 0, .null, [], none),
  (26, 3, .getfield 22, 3, 6, .null, [], none),
  (29, 2, .iload 4, 4, 0, .null, [], none),
  (31, 1, .iconst 1, 0, 0, .int 1, [], none),
  (32, 1, .isub, 0, 0, .null, [], none),
  (33, 1, .iaload, 0, 0, .null, [], none),
  (34, 1, .iaload, 0, 0, .null, [], none),
  (35, 1, .iload_n 1, 1, 0, .null, [], none),
  (36, 3, .if_icmp .le 25, 61, 0, .null, [], none),
  (39, 1, .aload_n 0, 0, 0, .null, [], none),
  (40, 3, .getfield 22, 3, 6, .null, [], none),
  (43, 2, .iload 4, 4, 0, .null, [], none),
  (45, 1, .aload_n 0, 0, 0, .null, [], none),
  (46, 3, .getfield 22, 3, 6, .null, [], none),
  (49, 2, .iload 4, 4, 0, .null, [], none),
  (51, 1, .iconst 1, 0, 0, .int 1, [], none),
  (52, 1, .isub, 0, 0, .null, [], none),
  (53, 1, .iaload, 0, 0, .null, [], none),
  (54, 1, .iastore, 0, 0, .null, [], none),
  (55, 3, .iinc 4 (-1), 4, 0, .int (-1), [], none),
  (58, 3, .goto (-42), 16, 0, .null, [], none),
  (61, 1, .aload_n 0, 0, 0, .null, [], none),
  (62, 3, .getfield 22, 3, 6, .null, [], none),
  (65, 2, .iload 4, 4, 0, .null, [], none),
  (67, 1, .aload_n 0, 0, 0, .null, [], none),
  (68, 3, .getfield 37, 3, 0, .null, [], none),
  (71, 1, .iastore, 0, 0, .null, [], none),
  (72, 1, .aload_n 0, 0, 0, .null, [], none)] : List xr_E), xr_sd xm_P 115 e := by
  have hc : xp_cd xm_P 115 = prog_5_method_5_code := rfl
  have ho : xp_own xm_P 115 = "ExchangeText$Model" := rfl
  have hm : xp_ml xm_P 115 = 5 := rfl
  exact xl_cons (xk_aload_n hc xd_115_0 rfl) <|
    xl_cons (xk_getfield (C := xm_C3) (T := xm_T3) (N := 11) hc xd_115_1 ho rfl (by decide) xm_u3 xl_384) <|
    xl_cons (xk_bipush hc xd_115_4 (by decide)) <|
    xl_cons (xk_if_icmp hc xd_115_6 (by decide)) <|
    xl_cons (xk_return_ hc xd_115_9) <|
    xl_cons (xk_aload_n hc xd_115_10 rfl) <|
    xl_cons (xk_getfield (C := xm_C3) (T := xm_T3) (N := 11) hc xd_115_11 ho rfl (by decide) xm_u3 xl_385) <|
    xl_cons (xk_istore hc xd_115_14 hm rfl (by decide)) <|
    xl_cons (xk_iload hc xd_115_16 rfl) <|
    xl_cons (xk_ifCond hc xd_115_18 (by decide)) <|
    xl_cons (xk_aload_n hc xd_115_21 rfl) <|
    xl_cons (xk_getfield (C := xm_C3) (T := xm_T3) (N := 11) hc xd_115_22 ho rfl (by decide) xm_u3 xl_376) <|
    xl_cons (xk_aload_n hc xd_115_25 rfl) <|
    xl_cons (xk_getfield (C := xm_C3) (T := xm_T3) (N := 11) hc xd_115_26 ho rfl (by decide) xm_u3 xl_379) <|
    xl_cons (xk_iload hc xd_115_29 rfl) <|
    xl_cons (xk_iconst hc xd_115_31 (by decide)) <|
    xl_cons (xk_isub hc xd_115_32) <|
    xl_cons (xk_iaload hc xd_115_33) <|
    xl_cons (xk_iaload hc xd_115_34) <|
    xl_cons (xk_iload_n hc xd_115_35 rfl) <|
    xl_cons (xk_if_icmp hc xd_115_36 (by decide)) <|
    xl_cons (xk_aload_n hc xd_115_39 rfl) <|
    xl_cons (xk_getfield (C := xm_C3) (T := xm_T3) (N := 11) hc xd_115_40 ho rfl (by decide) xm_u3 xl_379) <|
    xl_cons (xk_iload hc xd_115_43 rfl) <|
    xl_cons (xk_aload_n hc xd_115_45 rfl) <|
    xl_cons (xk_getfield (C := xm_C3) (T := xm_T3) (N := 11) hc xd_115_46 ho rfl (by decide) xm_u3 xl_379) <|
    xl_cons (xk_iload hc xd_115_49 rfl) <|
    xl_cons (xk_iconst hc xd_115_51 (by decide)) <|
    xl_cons (xk_isub hc xd_115_52) <|
    xl_cons (xk_iaload hc xd_115_53) <|
    xl_cons (xk_iastore hc xd_115_54) <|
    xl_cons (xk_iinc hc xd_115_55 hm rfl (by decide) (by decide)) <|
    xl_cons (xk_goto hc xd_115_58 (by decide)) <|
    xl_cons (xk_aload_n hc xd_115_61 rfl) <|
    xl_cons (xk_getfield (C := xm_C3) (T := xm_T3) (N := 11) hc xd_115_62 ho rfl (by decide) xm_u3 xl_379) <|
    xl_cons (xk_iload hc xd_115_65 rfl) <|
    xl_cons (xk_aload_n hc xd_115_67 rfl) <|
    xl_cons (xk_getfield (C := xm_C3) (T := xm_T3) (N := 11) hc xd_115_68 ho rfl (by decide) xm_u3 xl_384) <|
    xl_cons (xk_iastore hc xd_115_71) <|
    xl_cons (xk_aload_n hc xd_115_72 rfl) (xl_nil)
set_option maxRecDepth 100000 in
theorem xo_115_1 : ∀ e ∈ ([(73, 3, .getfield 9, 3, 3, .null, [], none),
  (76, 1, .aload_n 0, 0, 0, .null, [], none),
  (77, 3, .getfield 37, 3, 0, .null, [], none),
  (80, 1, .iload_n 1, 1, 0, .null, [], none),
  (81, 1, .iastore, 0, 0, .null, [], none),
  (82, 1, .aload_n 0, 0, 0, .null, [], none),
  (83, 3, .getfield 15, 3, 4, .null, [], none),
  (86, 1, .aload_n 0, 0, 0, .null, [], none),
  (87, 3, .getfield 37, 3, 0, .null, [], none),
  (90, 1, .lload_n 2, 2, 0, .null, [], none),
  (91, 1, .lastore, 0, 0, .null, [], none),
  (92, 1, .aload_n 0, 0, 0, .null, [], none),
  (93, 3, .getfield 19, 3, 5, .null, [], none),
  (96, 1, .aload_n 0, 0, 0, .null, [], none),
  (97, 3, .getfield 37, 3, 0, .null, [], none),
  (100, 1, .iconst 0, 0, 0, .int 0, [], none),
  (101, 1, .iastore, 0, 0, .null, [], none),
  (102, 1, .aload_n 0, 0, 0, .null, [], none),
  (103, 1, .dup, 0, 0, .null, [], none),
  (104, 3, .getfield 37, 3, 0, .null, [], none),
  (107, 1, .iconst 1, 0, 0, .int 1, [], none),
  (108, 1, .iadd, 0, 0, .null, [], none),
  (109, 3, .putfield 37, 3, 0, .null, [], none),
  (112, 1, .aload_n 0, 0, 0, .null, [], none),
  (113, 1, .dup, 0, 0, .null, [], none),
  (114, 3, .getfield 41, 3, 1, .null, [], none),
  (117, 1, .iconst 1, 0, 0, .int 1, [], none),
  (118, 1, .iadd, 0, 0, .null, [], none),
  (119, 3, .putfield 41, 3, 1, .null, [], none),
  (122, 1, .return_, 0, 0, .null, [], none)] : List xr_E), xr_sd xm_P 115 e := by
  have hc : xp_cd xm_P 115 = prog_5_method_5_code := rfl
  have ho : xp_own xm_P 115 = "ExchangeText$Model" := rfl
  have hm : xp_ml xm_P 115 = 5 := rfl
  exact xl_cons (xk_getfield (C := xm_C3) (T := xm_T3) (N := 11) hc xd_115_73 ho rfl (by decide) xm_u3 xl_376) <|
    xl_cons (xk_aload_n hc xd_115_76 rfl) <|
    xl_cons (xk_getfield (C := xm_C3) (T := xm_T3) (N := 11) hc xd_115_77 ho rfl (by decide) xm_u3 xl_384) <|
    xl_cons (xk_iload_n hc xd_115_80 rfl) <|
    xl_cons (xk_iastore hc xd_115_81) <|
    xl_cons (xk_aload_n hc xd_115_82 rfl) <|
    xl_cons (xk_getfield (C := xm_C3) (T := xm_T3) (N := 11) hc xd_115_83 ho rfl (by decide) xm_u3 xl_377) <|
    xl_cons (xk_aload_n hc xd_115_86 rfl) <|
    xl_cons (xk_getfield (C := xm_C3) (T := xm_T3) (N := 11) hc xd_115_87 ho rfl (by decide) xm_u3 xl_384) <|
    xl_cons (xk_lload_n hc xd_115_90 rfl) <|
    xl_cons (xk_lastore hc xd_115_91) <|
    xl_cons (xk_aload_n hc xd_115_92 rfl) <|
    xl_cons (xk_getfield (C := xm_C3) (T := xm_T3) (N := 11) hc xd_115_93 ho rfl (by decide) xm_u3 xl_378) <|
    xl_cons (xk_aload_n hc xd_115_96 rfl) <|
    xl_cons (xk_getfield (C := xm_C3) (T := xm_T3) (N := 11) hc xd_115_97 ho rfl (by decide) xm_u3 xl_384) <|
    xl_cons (xk_iconst hc xd_115_100 (by decide)) <|
    xl_cons (xk_iastore hc xd_115_101) <|
    xl_cons (xk_aload_n hc xd_115_102 rfl) <|
    xl_cons (xk_dup hc xd_115_103) <|
    xl_cons (xk_getfield (C := xm_C3) (T := xm_T3) (N := 11) hc xd_115_104 ho rfl (by decide) xm_u3 xl_384) <|
    xl_cons (xk_iconst hc xd_115_107 (by decide)) <|
    xl_cons (xk_iadd hc xd_115_108) <|
    xl_cons (xk_putfield (C := xm_C3) (T := xm_T3) (N := 11) (ty := xm_ty3) hc xd_115_109 ho rfl (by decide) xm_u3 xm_tk3 rfl xm_nm3 xl_384 rfl) <|
    xl_cons (xk_aload_n hc xd_115_112 rfl) <|
    xl_cons (xk_dup hc xd_115_113) <|
    xl_cons (xk_getfield (C := xm_C3) (T := xm_T3) (N := 11) hc xd_115_114 ho rfl (by decide) xm_u3 xl_385) <|
    xl_cons (xk_iconst hc xd_115_117 (by decide)) <|
    xl_cons (xk_iadd hc xd_115_118) <|
    xl_cons (xk_putfield (C := xm_C3) (T := xm_T3) (N := 11) (ty := xm_ty3) hc xd_115_119 ho rfl (by decide) xm_u3 xm_tk3 rfl xm_nm3 xl_385 rfl) <|
    xl_cons (xk_return_ hc xd_115_122) (xl_nil)
theorem xo_115 : ∀ e ∈ xm_i115, xr_sd xm_P 115 e := xl_app xo_115_0 (xo_115_1)
set_option maxRecDepth 100000 in
theorem xo_116_0 : ∀ e ∈ ([(0, 1, .aload_n 0, 0, 0, .null, [], none),
  (1, 3, .getfield 37, 3, 0, .null, [], none),
  (4, 1, .iconst 1, 0, 0, .int 1, [], none),
  (5, 1, .isub, 0, 0, .null, [], none),
  (6, 1, .istore_n 1, 1, 0, .null, [], none),
  (7, 1, .iload_n 1, 1, 0, .null, [], none),
  (8, 3, .ifCond .lt 14, 22, 0, .null, [], none),
  (11, 1, .aload_n 0, 0, 0, .null, [], none),
  (12, 3, .getfield 19, 3, 5, .null, [], none),
  (15, 1, .iload_n 1, 1, 0, .null, [], none),
  (16, 1, .iaload, 0, 0, .null, [], none),
  (17, 2, .bipush 8, 0, 0, .int 8, [], none),
  (19, 3, .if_icmp .lt 5, 24, 0, .null, [], none),
  (22, 1, .iconst (-1), 0, 0, .int (-1), [], none),
  (23, 1, .ireturn, 0, 0, .null, [], none),
  (24, 1, .aload_n 0, 0, 0, .null, [], none),
  (25, 3, .getfield 19, 3, 5, .null, [], none),
  (28, 1, .iload_n 1, 1, 0, .null, [], none),
  (29, 1, .dup2, 0, 0, .null, [], none),
  (30, 1, .iaload, 0, 0, .null, [], none),
  (31, 1, .iconst 1, 0, 0, .int 1, [], none),
  (32, 1, .iadd, 0, 0, .null, [], none),
  (33, 1, .iastore, 0, 0, .null, [], none),
  (34, 1, .iload_n 1, 1, 0, .null, [], none),
  (35, 2, .bipush 8, 0, 0, .int 8, [], none),
  (37, 1, .imul, 0, 0, .null, [], none),
  (38, 1, .aload_n 0, 0, 0, .null, [], none),
  (39, 3, .getfield 19, 3, 5, .null, [], none),
  (42, 1, .iload_n 1, 1, 0, .null, [], none),
  (43, 1, .iaload, 0, 0, .null, [], none),
  (44, 1, .iadd, 0, 0, .null, [], none),
  (45, 1, .iconst 1, 0, 0, .int 1, [], none),
  (46, 1, .isub, 0, 0, .null, [], none),
  (47, 1, .ireturn, 0, 0, .null, [], none)] : List xr_E), xr_sd xm_P 116 e := by
  have hc : xp_cd xm_P 116 = prog_5_method_6_code := rfl
  have ho : xp_own xm_P 116 = "ExchangeText$Model" := rfl
  have hm : xp_ml xm_P 116 = 2 := rfl
  exact xl_cons (xk_aload_n hc xd_116_0 rfl) <|
    xl_cons (xk_getfield (C := xm_C3) (T := xm_T3) (N := 11) hc xd_116_1 ho rfl (by decide) xm_u3 xl_384) <|
    xl_cons (xk_iconst hc xd_116_4 (by decide)) <|
    xl_cons (xk_isub hc xd_116_5) <|
    xl_cons (xk_istore_n hc xd_116_6 hm rfl (by decide)) <|
    xl_cons (xk_iload_n hc xd_116_7 rfl) <|
    xl_cons (xk_ifCond hc xd_116_8 (by decide)) <|
    xl_cons (xk_aload_n hc xd_116_11 rfl) <|
    xl_cons (xk_getfield (C := xm_C3) (T := xm_T3) (N := 11) hc xd_116_12 ho rfl (by decide) xm_u3 xl_378) <|
    xl_cons (xk_iload_n hc xd_116_15 rfl) <|
    xl_cons (xk_iaload hc xd_116_16) <|
    xl_cons (xk_bipush hc xd_116_17 (by decide)) <|
    xl_cons (xk_if_icmp hc xd_116_19 (by decide)) <|
    xl_cons (xk_iconst hc xd_116_22 (by decide)) <|
    xl_cons (xk_ireturn hc xd_116_23) <|
    xl_cons (xk_aload_n hc xd_116_24 rfl) <|
    xl_cons (xk_getfield (C := xm_C3) (T := xm_T3) (N := 11) hc xd_116_25 ho rfl (by decide) xm_u3 xl_378) <|
    xl_cons (xk_iload_n hc xd_116_28 rfl) <|
    xl_cons (xk_dup2 hc xd_116_29) <|
    xl_cons (xk_iaload hc xd_116_30) <|
    xl_cons (xk_iconst hc xd_116_31 (by decide)) <|
    xl_cons (xk_iadd hc xd_116_32) <|
    xl_cons (xk_iastore hc xd_116_33) <|
    xl_cons (xk_iload_n hc xd_116_34 rfl) <|
    xl_cons (xk_bipush hc xd_116_35 (by decide)) <|
    xl_cons (xk_imul hc xd_116_37) <|
    xl_cons (xk_aload_n hc xd_116_38 rfl) <|
    xl_cons (xk_getfield (C := xm_C3) (T := xm_T3) (N := 11) hc xd_116_39 ho rfl (by decide) xm_u3 xl_378) <|
    xl_cons (xk_iload_n hc xd_116_42 rfl) <|
    xl_cons (xk_iaload hc xd_116_43) <|
    xl_cons (xk_iadd hc xd_116_44) <|
    xl_cons (xk_iconst hc xd_116_45 (by decide)) <|
    xl_cons (xk_isub hc xd_116_46) <|
    xl_cons (xk_ireturn hc xd_116_47) (xl_nil)
theorem xo_116 : ∀ e ∈ xm_i116, xr_sd xm_P 116 e := xo_116_0
set_option maxRecDepth 100000 in
theorem xo_117_0 : ∀ e ∈ ([(0, 1, .aload_n 0, 0, 0, .null, [], none),
  (1, 3, .getfield 25, 3, 7, .null, [], none),
  (4, 1, .iload_n 1, 1, 0, .null, [], none),
  (5, 1, .iload_n 2, 2, 0, .null, [], none),
  (6, 1, .iastore, 0, 0, .null, [], none),
  (7, 1, .aload_n 0, 0, 0, .null, [], none),
  (8, 3, .getfield 28, 3, 8, .null, [], none),
  (11, 1, .iload_n 1, 1, 0, .null, [], none),
  (12, 1, .iload_n 3, 3, 0, .null, [], none),
  (13, 1, .iastore, 0, 0, .null, [], none),
  (14, 1, .aload_n 0, 0, 0, .null, [], none),
  (15, 3, .getfield 31, 3, 9, .null, [], none),
  (18, 1, .iload_n 1, 1, 0, .null, [], none),
  (19, 1, .aload_n 0, 0, 0, .null, [], none),
  (20, 3, .getfield 44, 3, 2, .null, [], none),
  (23, 1, .iastore, 0, 0, .null, [], none),
  (24, 1, .return_, 0, 0, .null, [], none)] : List xr_E), xr_sd xm_P 117 e := by
  have hc : xp_cd xm_P 117 = prog_5_method_7_code := rfl
  have ho : xp_own xm_P 117 = "ExchangeText$Model" := rfl
  have hm : xp_ml xm_P 117 = 4 := rfl
  exact xl_cons (xk_aload_n hc xd_117_0 rfl) <|
    xl_cons (xk_getfield (C := xm_C3) (T := xm_T3) (N := 11) hc xd_117_1 ho rfl (by decide) xm_u3 xl_380) <|
    xl_cons (xk_iload_n hc xd_117_4 rfl) <|
    xl_cons (xk_iload_n hc xd_117_5 rfl) <|
    xl_cons (xk_iastore hc xd_117_6) <|
    xl_cons (xk_aload_n hc xd_117_7 rfl) <|
    xl_cons (xk_getfield (C := xm_C3) (T := xm_T3) (N := 11) hc xd_117_8 ho rfl (by decide) xm_u3 xl_381) <|
    xl_cons (xk_iload_n hc xd_117_11 rfl) <|
    xl_cons (xk_iload_n hc xd_117_12 rfl) <|
    xl_cons (xk_iastore hc xd_117_13) <|
    xl_cons (xk_aload_n hc xd_117_14 rfl) <|
    xl_cons (xk_getfield (C := xm_C3) (T := xm_T3) (N := 11) hc xd_117_15 ho rfl (by decide) xm_u3 xl_382) <|
    xl_cons (xk_iload_n hc xd_117_18 rfl) <|
    xl_cons (xk_aload_n hc xd_117_19 rfl) <|
    xl_cons (xk_getfield (C := xm_C3) (T := xm_T3) (N := 11) hc xd_117_20 ho rfl (by decide) xm_u3 xl_386) <|
    xl_cons (xk_iastore hc xd_117_23) <|
    xl_cons (xk_return_ hc xd_117_24) (xl_nil)
theorem xo_117 : ∀ e ∈ xm_i117, xr_sd xm_P 117 e := xo_117_0
set_option maxRecDepth 100000 in
theorem xo_118_0 : ∀ e ∈ ([(0, 1, .aload_n 0, 0, 0, .null, [], none),
  (1, 3, .getfield 44, 3, 2, .null, [], none),
  (4, 1, .aload_n 0, 0, 0, .null, [], none),
  (5, 3, .getfield 34, 3, 10, .null, [], none),
  (8, 1, .arraylength, 0, 0, .null, [], none),
  (9, 3, .if_icmp .ge 33, 42, 0, .null, [], none),
  (12, 1, .aload_n 0, 0, 0, .null, [], none),
  (13, 3, .getfield 34, 3, 10, .null, [], none),
  (16, 1, .aload_n 0, 0, 0, .null, [], none),
  (17, 3, .getfield 44, 3, 2, .null, [], none),
  (20, 1, .iload_n 2, 2, 0, .null, [], none),
  (21, 1, .iastore, 0, 0, .null, [], none),
  (22, 1, .aload_n 0, 0, 0, .null, [], none),
  (23, 1, .dup, 0, 0, .null, [], none),
  (24, 3, .getfield 44, 3, 2, .null, [], none),
  (27, 1, .iconst 1, 0, 0, .int 1, [], none),
  (28, 1, .iadd, 0, 0, .null, [], none),
  (29, 3, .putfield 44, 3, 2, .null, [], none),
  (32, 1, .aload_n 0, 0, 0, .null, [], none),
  (33, 3, .getfield 28, 3, 8, .null, [], none),
  (36, 1, .iload_n 1, 1, 0, .null, [], none),
  (37, 1, .dup2, 0, 0, .null, [], none),
  (38, 1, .iaload, 0, 0, .null, [], none),
  (39, 1, .iconst 1, 0, 0, .int 1, [], none),
  (40, 1, .iadd, 0, 0, .null, [], none),
  (41, 1, .iastore, 0, 0, .null, [], none),
  (42, 1, .return_, 0, 0, .null, [], none)] : List xr_E), xr_sd xm_P 118 e := by
  have hc : xp_cd xm_P 118 = prog_5_method_8_code := rfl
  have ho : xp_own xm_P 118 = "ExchangeText$Model" := rfl
  have hm : xp_ml xm_P 118 = 3 := rfl
  exact xl_cons (xk_aload_n hc xd_118_0 rfl) <|
    xl_cons (xk_getfield (C := xm_C3) (T := xm_T3) (N := 11) hc xd_118_1 ho rfl (by decide) xm_u3 xl_386) <|
    xl_cons (xk_aload_n hc xd_118_4 rfl) <|
    xl_cons (xk_getfield (C := xm_C3) (T := xm_T3) (N := 11) hc xd_118_5 ho rfl (by decide) xm_u3 xl_383) <|
    xl_cons (xk_arraylength hc xd_118_8) <|
    xl_cons (xk_if_icmp hc xd_118_9 (by decide)) <|
    xl_cons (xk_aload_n hc xd_118_12 rfl) <|
    xl_cons (xk_getfield (C := xm_C3) (T := xm_T3) (N := 11) hc xd_118_13 ho rfl (by decide) xm_u3 xl_383) <|
    xl_cons (xk_aload_n hc xd_118_16 rfl) <|
    xl_cons (xk_getfield (C := xm_C3) (T := xm_T3) (N := 11) hc xd_118_17 ho rfl (by decide) xm_u3 xl_386) <|
    xl_cons (xk_iload_n hc xd_118_20 rfl) <|
    xl_cons (xk_iastore hc xd_118_21) <|
    xl_cons (xk_aload_n hc xd_118_22 rfl) <|
    xl_cons (xk_dup hc xd_118_23) <|
    xl_cons (xk_getfield (C := xm_C3) (T := xm_T3) (N := 11) hc xd_118_24 ho rfl (by decide) xm_u3 xl_386) <|
    xl_cons (xk_iconst hc xd_118_27 (by decide)) <|
    xl_cons (xk_iadd hc xd_118_28) <|
    xl_cons (xk_putfield (C := xm_C3) (T := xm_T3) (N := 11) (ty := xm_ty3) hc xd_118_29 ho rfl (by decide) xm_u3 xm_tk3 rfl xm_nm3 xl_386 rfl) <|
    xl_cons (xk_aload_n hc xd_118_32 rfl) <|
    xl_cons (xk_getfield (C := xm_C3) (T := xm_T3) (N := 11) hc xd_118_33 ho rfl (by decide) xm_u3 xl_381) <|
    xl_cons (xk_iload_n hc xd_118_36 rfl) <|
    xl_cons (xk_dup2 hc xd_118_37) <|
    xl_cons (xk_iaload hc xd_118_38) <|
    xl_cons (xk_iconst hc xd_118_39 (by decide)) <|
    xl_cons (xk_iadd hc xd_118_40) <|
    xl_cons (xk_iastore hc xd_118_41) <|
    xl_cons (xk_return_ hc xd_118_42) (xl_nil)
theorem xo_118 : ∀ e ∈ xm_i118, xr_sd xm_P 118 e := xo_118_0
set_option maxRecDepth 100000 in
theorem xo_119_0 : ∀ e ∈ ([(0, 1, .aload_n 0, 0, 0, .null, [], none),
  (1, 3, .getfield 25, 3, 7, .null, [], none),
  (4, 1, .iload_n 1, 1, 0, .null, [], none),
  (5, 1, .iaload, 0, 0, .null, [], none),
  (6, 1, .istore_n 2, 2, 0, .null, [], none),
  (7, 1, .iload_n 2, 2, 0, .null, [], none),
  (8, 3, .ifCond .eq 14, 22, 0, .null, [], none),
  (11, 1, .iload_n 2, 2, 0, .null, [], none),
  (12, 1, .iconst 2, 0, 0, .int 2, [], none),
  (13, 3, .if_icmp .eq 9, 22, 0, .null, [], none),
  (16, 1, .iload_n 2, 2, 0, .null, [], none),
  (17, 2, .bipush 6, 0, 0, .int 6, [], none),
  (19, 3, .if_icmp .ne 7, 26, 0, .null, [], none),
  (22, 1, .iconst 0, 0, 0, .int 0, [], none),
  (23, 3, .goto 9, 32, 0, .null, [], none),
  (26, 1, .aload_n 0, 0, 0, .null, [], none),
  (27, 3, .getfield 28, 3, 8, .null, [], none),
  (30, 1, .iload_n 1, 1, 0, .null, [], none),
  (31, 1, .iaload, 0, 0, .null, [], none),
  (32, 1, .ireturn, 0, 0, .null, [], none)] : List xr_E), xr_sd xm_P 119 e := by
  have hc : xp_cd xm_P 119 = prog_5_method_9_code := rfl
  have ho : xp_own xm_P 119 = "ExchangeText$Model" := rfl
  have hm : xp_ml xm_P 119 = 3 := rfl
  exact xl_cons (xk_aload_n hc xd_119_0 rfl) <|
    xl_cons (xk_getfield (C := xm_C3) (T := xm_T3) (N := 11) hc xd_119_1 ho rfl (by decide) xm_u3 xl_380) <|
    xl_cons (xk_iload_n hc xd_119_4 rfl) <|
    xl_cons (xk_iaload hc xd_119_5) <|
    xl_cons (xk_istore_n hc xd_119_6 hm rfl (by decide)) <|
    xl_cons (xk_iload_n hc xd_119_7 rfl) <|
    xl_cons (xk_ifCond hc xd_119_8 (by decide)) <|
    xl_cons (xk_iload_n hc xd_119_11 rfl) <|
    xl_cons (xk_iconst hc xd_119_12 (by decide)) <|
    xl_cons (xk_if_icmp hc xd_119_13 (by decide)) <|
    xl_cons (xk_iload_n hc xd_119_16 rfl) <|
    xl_cons (xk_bipush hc xd_119_17 (by decide)) <|
    xl_cons (xk_if_icmp hc xd_119_19 (by decide)) <|
    xl_cons (xk_iconst hc xd_119_22 (by decide)) <|
    xl_cons (xk_goto hc xd_119_23 (by decide)) <|
    xl_cons (xk_aload_n hc xd_119_26 rfl) <|
    xl_cons (xk_getfield (C := xm_C3) (T := xm_T3) (N := 11) hc xd_119_27 ho rfl (by decide) xm_u3 xl_381) <|
    xl_cons (xk_iload_n hc xd_119_30 rfl) <|
    xl_cons (xk_iaload hc xd_119_31) <|
    xl_cons (xk_ireturn hc xd_119_32) (xl_nil)
theorem xo_119 : ∀ e ∈ xm_i119, xr_sd xm_P 119 e := xo_119_0
set_option maxRecDepth 100000 in
theorem xo_120_0 : ∀ e ∈ ([(0, 1, .aload_n 0, 0, 0, .null, [], none),
  (1, 3, .getfield 31, 3, 9, .null, [], none),
  (4, 1, .iload_n 1, 1, 0, .null, [], none),
  (5, 1, .iaload, 0, 0, .null, [], none),
  (6, 1, .iload_n 2, 2, 0, .null, [], none),
  (7, 1, .iadd, 0, 0, .null, [], none),
  (8, 1, .istore_n 3, 3, 0, .null, [], none),
  (9, 1, .iload_n 3, 3, 0, .null, [], none),
  (10, 3, .ifCond .lt 20, 30, 0, .null, [], none),
  (13, 1, .iload_n 3, 3, 0, .null, [], none),
  (14, 1, .aload_n 0, 0, 0, .null, [], none),
  (15, 3, .getfield 44, 3, 2, .null, [], none),
  (18, 3, .if_icmp .ge 12, 30, 0, .null, [], none),
  (21, 1, .aload_n 0, 0, 0, .null, [], none),
  (22, 3, .getfield 34, 3, 10, .null, [], none),
  (25, 1, .iload_n 3, 3, 0, .null, [], none),
  (26, 1, .iaload, 0, 0, .null, [], none),
  (27, 3, .goto 4, 31, 0, .null, [], none),
  (30, 1, .iconst 0, 0, 0, .int 0, [], none),
  (31, 1, .ireturn, 0, 0, .null, [], none)] : List xr_E), xr_sd xm_P 120 e := by
  have hc : xp_cd xm_P 120 = prog_5_method_10_code := rfl
  have ho : xp_own xm_P 120 = "ExchangeText$Model" := rfl
  have hm : xp_ml xm_P 120 = 4 := rfl
  exact xl_cons (xk_aload_n hc xd_120_0 rfl) <|
    xl_cons (xk_getfield (C := xm_C3) (T := xm_T3) (N := 11) hc xd_120_1 ho rfl (by decide) xm_u3 xl_382) <|
    xl_cons (xk_iload_n hc xd_120_4 rfl) <|
    xl_cons (xk_iaload hc xd_120_5) <|
    xl_cons (xk_iload_n hc xd_120_6 rfl) <|
    xl_cons (xk_iadd hc xd_120_7) <|
    xl_cons (xk_istore_n hc xd_120_8 hm rfl (by decide)) <|
    xl_cons (xk_iload_n hc xd_120_9 rfl) <|
    xl_cons (xk_ifCond hc xd_120_10 (by decide)) <|
    xl_cons (xk_iload_n hc xd_120_13 rfl) <|
    xl_cons (xk_aload_n hc xd_120_14 rfl) <|
    xl_cons (xk_getfield (C := xm_C3) (T := xm_T3) (N := 11) hc xd_120_15 ho rfl (by decide) xm_u3 xl_386) <|
    xl_cons (xk_if_icmp hc xd_120_18 (by decide)) <|
    xl_cons (xk_aload_n hc xd_120_21 rfl) <|
    xl_cons (xk_getfield (C := xm_C3) (T := xm_T3) (N := 11) hc xd_120_22 ho rfl (by decide) xm_u3 xl_383) <|
    xl_cons (xk_iload_n hc xd_120_25 rfl) <|
    xl_cons (xk_iaload hc xd_120_26) <|
    xl_cons (xk_goto hc xd_120_27 (by decide)) <|
    xl_cons (xk_iconst hc xd_120_30 (by decide)) <|
    xl_cons (xk_ireturn hc xd_120_31) (xl_nil)
theorem xo_120 : ∀ e ∈ xm_i120, xr_sd xm_P 120 e := xo_120_0
set_option maxRecDepth 100000 in
theorem xo_121_0 : ∀ e ∈ ([(0, 1, .iconst 0, 0, 0, .int 0, [], none),
  (1, 1, .istore_n 2, 2, 0, .null, [], none),
  (2, 1, .iconst 0, 0, 0, .int 0, [], none),
  (3, 1, .istore_n 3, 3, 0, .null, [], none),
  (4, 1, .iload_n 3, 3, 0, .null, [], none),
  (5, 1, .aload_n 0, 0, 0, .null, [], none),
  (6, 3, .getfield 19, 3, 5, .null, [], none),
  (9, 1, .iload_n 1, 1, 0, .null, [], none),
  (10, 1, .iaload, 0, 0, .null, [], none),
  (11, 3, .if_icmp .ge 55, 66, 0, .null, [], none),
  (14, 1, .iload_n 1, 1, 0, .null, [], none),
  (15, 2, .bipush 8, 0, 0, .int 8, [], none),
  (17, 1, .imul, 0, 0, .null, [], none),
  (18, 1, .iload_n 3, 3, 0, .null, [], none),
  (19, 1, .iadd, 0, 0, .null, [], none),
  (20, 2, .istore 4, 4, 0, .null, [], none),
  (22, 1, .aload_n 0, 0, 0, .null, [], none),
  (23, 3, .getfield 25, 3, 7, .null, [], none),
  (26, 2, .iload 4, 4, 0, .null, [], none),
  (28, 1, .iaload, 0, 0, .null, [], none),
  (29, 1, .iconst 2, 0, 0, .int 2, [], none),
  (30, 3, .if_icmp .ne 9, 39, 0, .null, [], none),
  (33, 3, .iinc 2 1, 2, 0, .int 1, [], none),
  (36, 3, .goto 24, 60, 0, .null, [], none),
  (39, 1, .aload_n 0, 0, 0, .null, [], none),
  (40, 3, .getfield 25, 3, 7, .null, [], none),
  (43, 2, .iload 4, 4, 0, .null, [], none),
  (45, 1, .iaload, 0, 0, .null, [], none),
  (46, 1, .iconst 4, 0, 0, .int 4, [], none),
  (47, 3, .if_icmp .ne 13, 60, 0, .null, [], none),
  (50, 1, .iload_n 2, 2, 0, .null, [], none),
  (51, 1, .aload_n 0, 0, 0, .null, [], none),
  (52, 3, .getfield 28, 3, 8, .null, [], none),
  (55, 2, .iload 4, 4, 0, .null, [], none),
  (57, 1, .iaload, 0, 0, .null, [], none),
  (58, 1, .iadd, 0, 0, .null, [], none),
  (59, 1, .istore_n 2, 2, 0, .null, [], none),
  (60, 3, .iinc 3 1, 3, 0, .int 1, [], none),
  (63, 3, .goto (-59), 4, 0, .null, [], none),
  (66, 1, .iload_n 2, 2, 0, .null, [], none)] : List xr_E), xr_sd xm_P 121 e := by
  have hc : xp_cd xm_P 121 = prog_5_method_11_code := rfl
  have ho : xp_own xm_P 121 = "ExchangeText$Model" := rfl
  have hm : xp_ml xm_P 121 = 5 := rfl
  exact xl_cons (xk_iconst hc xd_121_0 (by decide)) <|
    xl_cons (xk_istore_n hc xd_121_1 hm rfl (by decide)) <|
    xl_cons (xk_iconst hc xd_121_2 (by decide)) <|
    xl_cons (xk_istore_n hc xd_121_3 hm rfl (by decide)) <|
    xl_cons (xk_iload_n hc xd_121_4 rfl) <|
    xl_cons (xk_aload_n hc xd_121_5 rfl) <|
    xl_cons (xk_getfield (C := xm_C3) (T := xm_T3) (N := 11) hc xd_121_6 ho rfl (by decide) xm_u3 xl_378) <|
    xl_cons (xk_iload_n hc xd_121_9 rfl) <|
    xl_cons (xk_iaload hc xd_121_10) <|
    xl_cons (xk_if_icmp hc xd_121_11 (by decide)) <|
    xl_cons (xk_iload_n hc xd_121_14 rfl) <|
    xl_cons (xk_bipush hc xd_121_15 (by decide)) <|
    xl_cons (xk_imul hc xd_121_17) <|
    xl_cons (xk_iload_n hc xd_121_18 rfl) <|
    xl_cons (xk_iadd hc xd_121_19) <|
    xl_cons (xk_istore hc xd_121_20 hm rfl (by decide)) <|
    xl_cons (xk_aload_n hc xd_121_22 rfl) <|
    xl_cons (xk_getfield (C := xm_C3) (T := xm_T3) (N := 11) hc xd_121_23 ho rfl (by decide) xm_u3 xl_380) <|
    xl_cons (xk_iload hc xd_121_26 rfl) <|
    xl_cons (xk_iaload hc xd_121_28) <|
    xl_cons (xk_iconst hc xd_121_29 (by decide)) <|
    xl_cons (xk_if_icmp hc xd_121_30 (by decide)) <|
    xl_cons (xk_iinc hc xd_121_33 hm rfl (by decide) (by decide)) <|
    xl_cons (xk_goto hc xd_121_36 (by decide)) <|
    xl_cons (xk_aload_n hc xd_121_39 rfl) <|
    xl_cons (xk_getfield (C := xm_C3) (T := xm_T3) (N := 11) hc xd_121_40 ho rfl (by decide) xm_u3 xl_380) <|
    xl_cons (xk_iload hc xd_121_43 rfl) <|
    xl_cons (xk_iaload hc xd_121_45) <|
    xl_cons (xk_iconst hc xd_121_46 (by decide)) <|
    xl_cons (xk_if_icmp hc xd_121_47 (by decide)) <|
    xl_cons (xk_iload_n hc xd_121_50 rfl) <|
    xl_cons (xk_aload_n hc xd_121_51 rfl) <|
    xl_cons (xk_getfield (C := xm_C3) (T := xm_T3) (N := 11) hc xd_121_52 ho rfl (by decide) xm_u3 xl_381) <|
    xl_cons (xk_iload hc xd_121_55 rfl) <|
    xl_cons (xk_iaload hc xd_121_57) <|
    xl_cons (xk_iadd hc xd_121_58) <|
    xl_cons (xk_istore_n hc xd_121_59 hm rfl (by decide)) <|
    xl_cons (xk_iinc hc xd_121_60 hm rfl (by decide) (by decide)) <|
    xl_cons (xk_goto hc xd_121_63 (by decide)) <|
    xl_cons (xk_iload_n hc xd_121_66 rfl) (xl_nil)
set_option maxRecDepth 100000 in
theorem xo_121_1 : ∀ e ∈ ([(67, 1, .ireturn, 0, 0, .null, [], none)] : List xr_E), xr_sd xm_P 121 e := by
  have hc : xp_cd xm_P 121 = prog_5_method_11_code := rfl
  have ho : xp_own xm_P 121 = "ExchangeText$Model" := rfl
  have hm : xp_ml xm_P 121 = 5 := rfl
  exact xl_cons (xk_ireturn hc xd_121_67) (xl_nil)
theorem xo_121 : ∀ e ∈ xm_i121, xr_sd xm_P 121 e := xl_app xo_121_0 (xo_121_1)
set_option maxRecDepth 100000 in
theorem xo_122_0 : ∀ e ∈ ([(0, 1, .iconst 0, 0, 0, .int 0, [], none),
  (1, 1, .istore_n 1, 1, 0, .null, [], none),
  (2, 1, .iload_n 1, 1, 0, .null, [], none),
  (3, 1, .aload_n 0, 0, 0, .null, [], none),
  (4, 3, .getfield 37, 3, 0, .null, [], none),
  (7, 3, .if_icmp .ge 47, 54, 0, .null, [], none),
  (10, 1, .iconst 0, 0, 0, .int 0, [], none),
  (11, 1, .istore_n 2, 2, 0, .null, [], none),
  (12, 1, .iload_n 2, 2, 0, .null, [], none),
  (13, 1, .aload_n 0, 0, 0, .null, [], none),
  (14, 3, .getfield 19, 3, 5, .null, [], none),
  (17, 1, .iload_n 1, 1, 0, .null, [], none),
  (18, 1, .iaload, 0, 0, .null, [], none),
  (19, 3, .if_icmp .ge 29, 48, 0, .null, [], none),
  (22, 1, .aload_n 0, 0, 0, .null, [], none),
  (23, 1, .iload_n 1, 1, 0, .null, [], none),
  (24, 2, .bipush 8, 0, 0, .int 8, [], none),
  (26, 1, .imul, 0, 0, .null, [], none),
  (27, 1, .iload_n 2, 2, 0, .null, [], none),
  (28, 1, .iadd, 0, 0, .null, [], none),
  (29, 3, .invokevirtual 47, 123, 2, .retAddr 0, [], none),
  (32, 3, .ifCond .eq 10, 42, 0, .null, [], none),
  (35, 1, .aload_n 0, 0, 0, .null, [], none),
  (36, 3, .getfield 9, 3, 3, .null, [], none),
  (39, 1, .iload_n 1, 1, 0, .null, [], none),
  (40, 1, .iaload, 0, 0, .null, [], none),
  (41, 1, .ireturn, 0, 0, .null, [], none),
  (42, 3, .iinc 2 1, 2, 0, .int 1, [], none),
  (45, 3, .goto (-33), 12, 0, .null, [], none),
  (48, 3, .iinc 1 1, 1, 0, .int 1, [], none),
  (51, 3, .goto (-49), 2, 0, .null, [], none),
  (54, 1, .iconst (-1), 0, 0, .int (-1), [], none),
  (55, 1, .ireturn, 0, 0, .null, [], none)] : List xr_E), xr_sd xm_P 122 e := by
  have hc : xp_cd xm_P 122 = prog_5_method_12_code := rfl
  have ho : xp_own xm_P 122 = "ExchangeText$Model" := rfl
  have hm : xp_ml xm_P 122 = 3 := rfl
  exact xl_cons (xk_iconst hc xd_122_0 (by decide)) <|
    xl_cons (xk_istore_n hc xd_122_1 hm rfl (by decide)) <|
    xl_cons (xk_iload_n hc xd_122_2 rfl) <|
    xl_cons (xk_aload_n hc xd_122_3 rfl) <|
    xl_cons (xk_getfield (C := xm_C3) (T := xm_T3) (N := 11) hc xd_122_4 ho rfl (by decide) xm_u3 xl_384) <|
    xl_cons (xk_if_icmp hc xd_122_7 (by decide)) <|
    xl_cons (xk_iconst hc xd_122_10 (by decide)) <|
    xl_cons (xk_istore_n hc xd_122_11 hm rfl (by decide)) <|
    xl_cons (xk_iload_n hc xd_122_12 rfl) <|
    xl_cons (xk_aload_n hc xd_122_13 rfl) <|
    xl_cons (xk_getfield (C := xm_C3) (T := xm_T3) (N := 11) hc xd_122_14 ho rfl (by decide) xm_u3 xl_378) <|
    xl_cons (xk_iload_n hc xd_122_17 rfl) <|
    xl_cons (xk_iaload hc xd_122_18) <|
    xl_cons (xk_if_icmp hc xd_122_19 (by decide)) <|
    xl_cons (xk_aload_n hc xd_122_22 rfl) <|
    xl_cons (xk_iload_n hc xd_122_23 rfl) <|
    xl_cons (xk_bipush hc xd_122_24 (by decide)) <|
    xl_cons (xk_imul hc xd_122_26) <|
    xl_cons (xk_iload_n hc xd_122_27 rfl) <|
    xl_cons (xk_iadd hc xd_122_28) <|
    xl_cons (xk_callV (Y := xm_y123) ho rfl (by decide) ⟨by decide, by decide⟩ xl_17 hc xd_122_29 rfl (b' := 1) rfl xm_nd123 (T := xm_T3) (N := 11) rfl xl_387 xl_388 xl_389) <|
    xl_cons (xk_ifCond hc xd_122_32 (by decide)) <|
    xl_cons (xk_aload_n hc xd_122_35 rfl) <|
    xl_cons (xk_getfield (C := xm_C3) (T := xm_T3) (N := 11) hc xd_122_36 ho rfl (by decide) xm_u3 xl_376) <|
    xl_cons (xk_iload_n hc xd_122_39 rfl) <|
    xl_cons (xk_iaload hc xd_122_40) <|
    xl_cons (xk_ireturn hc xd_122_41) <|
    xl_cons (xk_iinc hc xd_122_42 hm rfl (by decide) (by decide)) <|
    xl_cons (xk_goto hc xd_122_45 (by decide)) <|
    xl_cons (xk_iinc hc xd_122_48 hm rfl (by decide) (by decide)) <|
    xl_cons (xk_goto hc xd_122_51 (by decide)) <|
    xl_cons (xk_iconst hc xd_122_54 (by decide)) <|
    xl_cons (xk_ireturn hc xd_122_55) (xl_nil)
theorem xo_122 : ∀ e ∈ xm_i122, xr_sd xm_P 122 e := xo_122_0
set_option maxRecDepth 100000 in
theorem xo_123_0 : ∀ e ∈ ([(0, 1, .aload_n 0, 0, 0, .null, [], none),
  (1, 3, .getfield 25, 3, 7, .null, [], none),
  (4, 1, .iload_n 1, 1, 0, .null, [], none),
  (5, 1, .iaload, 0, 0, .null, [], none),
  (6, 1, .iconst 2, 0, 0, .int 2, [], none),
  (7, 3, .if_icmp .ne 23, 30, 0, .null, [], none),
  (10, 1, .aload_n 0, 0, 0, .null, [], none),
  (11, 1, .aload_n 0, 0, 0, .null, [], none),
  (12, 3, .getfield 28, 3, 8, .null, [], none),
  (15, 1, .iload_n 1, 1, 0, .null, [], none),
  (16, 1, .iaload, 0, 0, .null, [], none),
  (17, 3, .invokevirtual 51, 114, 2, .retAddr 0, [], none),
  (20, 1, .iconst (-1), 0, 0, .int (-1), [], none),
  (21, 3, .if_icmp .ne 7, 28, 0, .null, [], none),
  (24, 1, .iconst 1, 0, 0, .int 1, [], none),
  (25, 3, .goto 4, 29, 0, .null, [], none),
  (28, 1, .iconst 0, 0, 0, .int 0, [], none),
  (29, 1, .ireturn, 0, 0, .null, [], none),
  (30, 1, .aload_n 0, 0, 0, .null, [], none),
  (31, 3, .getfield 25, 3, 7, .null, [], none),
  (34, 1, .iload_n 1, 1, 0, .null, [], none),
  (35, 1, .iaload, 0, 0, .null, [], none),
  (36, 1, .iconst 4, 0, 0, .int 4, [], none),
  (37, 3, .if_icmp .ne 37, 74, 0, .null, [], none),
  (40, 1, .iconst 0, 0, 0, .int 0, [], none),
  (41, 1, .istore_n 2, 2, 0, .null, [], none),
  (42, 1, .iload_n 2, 2, 0, .null, [], none),
  (43, 1, .aload_n 0, 0, 0, .null, [], none),
  (44, 3, .getfield 28, 3, 8, .null, [], none),
  (47, 1, .iload_n 1, 1, 0, .null, [], none),
  (48, 1, .iaload, 0, 0, .null, [], none),
  (49, 3, .if_icmp .ge 25, 74, 0, .null, [], none),
  (52, 1, .aload_n 0, 0, 0, .null, [], none),
  (53, 1, .aload_n 0, 0, 0, .null, [], none),
  (54, 1, .iload_n 1, 1, 0, .null, [], none),
  (55, 1, .iload_n 2, 2, 0, .null, [], none),
  (56, 3, .invokevirtual 55, 120, 3, .retAddr 0, [], none),
  (59, 3, .invokevirtual 51, 114, 2, .retAddr 0, [], none),
  (62, 1, .iconst (-1), 0, 0, .int (-1), [], none),
  (63, 3, .if_icmp .ne 5, 68, 0, .null, [], none)] : List xr_E), xr_sd xm_P 123 e := by
  have hc : xp_cd xm_P 123 = prog_5_method_13_code := rfl
  have ho : xp_own xm_P 123 = "ExchangeText$Model" := rfl
  have hm : xp_ml xm_P 123 = 3 := rfl
  exact xl_cons (xk_aload_n hc xd_123_0 rfl) <|
    xl_cons (xk_getfield (C := xm_C3) (T := xm_T3) (N := 11) hc xd_123_1 ho rfl (by decide) xm_u3 xl_380) <|
    xl_cons (xk_iload_n hc xd_123_4 rfl) <|
    xl_cons (xk_iaload hc xd_123_5) <|
    xl_cons (xk_iconst hc xd_123_6 (by decide)) <|
    xl_cons (xk_if_icmp hc xd_123_7 (by decide)) <|
    xl_cons (xk_aload_n hc xd_123_10 rfl) <|
    xl_cons (xk_aload_n hc xd_123_11 rfl) <|
    xl_cons (xk_getfield (C := xm_C3) (T := xm_T3) (N := 11) hc xd_123_12 ho rfl (by decide) xm_u3 xl_381) <|
    xl_cons (xk_iload_n hc xd_123_15 rfl) <|
    xl_cons (xk_iaload hc xd_123_16) <|
    xl_cons (xk_callV (Y := xm_y114) ho rfl (by decide) ⟨by decide, by decide⟩ xl_17 hc xd_123_17 rfl (b' := 1) rfl xm_nd114 (T := xm_T3) (N := 11) rfl xl_390 xl_167 xl_168) <|
    xl_cons (xk_iconst hc xd_123_20 (by decide)) <|
    xl_cons (xk_if_icmp hc xd_123_21 (by decide)) <|
    xl_cons (xk_iconst hc xd_123_24 (by decide)) <|
    xl_cons (xk_goto hc xd_123_25 (by decide)) <|
    xl_cons (xk_iconst hc xd_123_28 (by decide)) <|
    xl_cons (xk_ireturn hc xd_123_29) <|
    xl_cons (xk_aload_n hc xd_123_30 rfl) <|
    xl_cons (xk_getfield (C := xm_C3) (T := xm_T3) (N := 11) hc xd_123_31 ho rfl (by decide) xm_u3 xl_380) <|
    xl_cons (xk_iload_n hc xd_123_34 rfl) <|
    xl_cons (xk_iaload hc xd_123_35) <|
    xl_cons (xk_iconst hc xd_123_36 (by decide)) <|
    xl_cons (xk_if_icmp hc xd_123_37 (by decide)) <|
    xl_cons (xk_iconst hc xd_123_40 (by decide)) <|
    xl_cons (xk_istore_n hc xd_123_41 hm rfl (by decide)) <|
    xl_cons (xk_iload_n hc xd_123_42 rfl) <|
    xl_cons (xk_aload_n hc xd_123_43 rfl) <|
    xl_cons (xk_getfield (C := xm_C3) (T := xm_T3) (N := 11) hc xd_123_44 ho rfl (by decide) xm_u3 xl_381) <|
    xl_cons (xk_iload_n hc xd_123_47 rfl) <|
    xl_cons (xk_iaload hc xd_123_48) <|
    xl_cons (xk_if_icmp hc xd_123_49 (by decide)) <|
    xl_cons (xk_aload_n hc xd_123_52 rfl) <|
    xl_cons (xk_aload_n hc xd_123_53 rfl) <|
    xl_cons (xk_iload_n hc xd_123_54 rfl) <|
    xl_cons (xk_iload_n hc xd_123_55 rfl) <|
    xl_cons (xk_callV (Y := xm_y120) ho rfl (by decide) ⟨by decide, by decide⟩ xl_17 hc xd_123_56 rfl (b' := 2) rfl xm_nd120 (T := xm_T3) (N := 11) rfl xl_391 xl_127 xl_128) <|
    xl_cons (xk_callV (Y := xm_y114) ho rfl (by decide) ⟨by decide, by decide⟩ xl_17 hc xd_123_59 rfl (b' := 1) rfl xm_nd114 (T := xm_T3) (N := 11) rfl xl_390 xl_167 xl_168) <|
    xl_cons (xk_iconst hc xd_123_62 (by decide)) <|
    xl_cons (xk_if_icmp hc xd_123_63 (by decide)) (xl_nil)
set_option maxRecDepth 100000 in
theorem xo_123_1 : ∀ e ∈ ([(66, 1, .iconst 1, 0, 0, .int 1, [], none),
  (67, 1, .ireturn, 0, 0, .null, [], none),
  (68, 3, .iinc 2 1, 2, 0, .int 1, [], none),
  (71, 3, .goto (-29), 42, 0, .null, [], none),
  (74, 1, .iconst 0, 0, 0, .int 0, [], none),
  (75, 1, .ireturn, 0, 0, .null, [], none)] : List xr_E), xr_sd xm_P 123 e := by
  have hc : xp_cd xm_P 123 = prog_5_method_13_code := rfl
  have ho : xp_own xm_P 123 = "ExchangeText$Model" := rfl
  have hm : xp_ml xm_P 123 = 3 := rfl
  exact xl_cons (xk_iconst hc xd_123_66 (by decide)) <|
    xl_cons (xk_ireturn hc xd_123_67) <|
    xl_cons (xk_iinc hc xd_123_68 hm rfl (by decide) (by decide)) <|
    xl_cons (xk_goto hc xd_123_71 (by decide)) <|
    xl_cons (xk_iconst hc xd_123_74 (by decide)) <|
    xl_cons (xk_ireturn hc xd_123_75) (xl_nil)
theorem xo_123 : ∀ e ∈ xm_i123, xr_sd xm_P 123 e := xl_app xo_123_0 (xo_123_1)
set_option maxRecDepth 100000 in
theorem xo_124_0 : ∀ e ∈ ([(0, 1, .aload_n 0, 0, 0, .null, [], none),
  (1, 3, .getfield 19, 3, 5, .null, [], none),
  (4, 1, .iload_n 1, 1, 0, .null, [], none),
  (5, 1, .iaload, 0, 0, .null, [], none),
  (6, 1, .iconst 3, 0, 0, .int 3, [], none),
  (7, 3, .if_icmp .gt 5, 12, 0, .null, [], none),
  (10, 1, .iconst 0, 0, 0, .int 0, [], none),
  (11, 1, .ireturn, 0, 0, .null, [], none),
  (12, 1, .iload_n 1, 1, 0, .null, [], none),
  (13, 2, .bipush 8, 0, 0, .int 8, [], none),
  (15, 1, .imul, 0, 0, .null, [], none),
  (16, 1, .istore_n 2, 2, 0, .null, [], none),
  (17, 1, .iconst 0, 0, 0, .int 0, [], none),
  (18, 1, .istore_n 3, 3, 0, .null, [], none),
  (19, 1, .iload_n 3, 3, 0, .null, [], none),
  (20, 1, .iconst 3, 0, 0, .int 3, [], none),
  (21, 3, .if_icmp .ge 22, 43, 0, .null, [], none),
  (24, 1, .aload_n 0, 0, 0, .null, [], none),
  (25, 3, .getfield 25, 3, 7, .null, [], none),
  (28, 1, .iload_n 2, 2, 0, .null, [], none),
  (29, 1, .iload_n 3, 3, 0, .null, [], none),
  (30, 1, .iadd, 0, 0, .null, [], none),
  (31, 1, .iaload, 0, 0, .null, [], none),
  (32, 3, .ifCond .eq 5, 37, 0, .null, [], none),
  (35, 1, .iconst 0, 0, 0, .int 0, [], none),
  (36, 1, .ireturn, 0, 0, .null, [], none),
  (37, 3, .iinc 3 1, 3, 0, .int 1, [], none),
  (40, 3, .goto (-21), 19, 0, .null, [], none),
  (43, 1, .aload_n 0, 0, 0, .null, [], none),
  (44, 3, .getfield 25, 3, 7, .null, [], none),
  (47, 1, .iload_n 2, 2, 0, .null, [], none),
  (48, 1, .iconst 3, 0, 0, .int 3, [], none),
  (49, 1, .iadd, 0, 0, .null, [], none),
  (50, 1, .iaload, 0, 0, .null, [], none),
  (51, 1, .iconst 2, 0, 0, .int 2, [], none),
  (52, 3, .if_icmp .eq 16, 68, 0, .null, [], none),
  (55, 1, .aload_n 0, 0, 0, .null, [], none),
  (56, 3, .getfield 25, 3, 7, .null, [], none),
  (59, 1, .iload_n 2, 2, 0, .null, [], none),
  (60, 1, .iconst 3, 0, 0, .int 3, [], none)] : List xr_E), xr_sd xm_P 124 e := by
  have hc : xp_cd xm_P 124 = prog_5_method_14_code := rfl
  have ho : xp_own xm_P 124 = "ExchangeText$Model" := rfl
  have hm : xp_ml xm_P 124 = 4 := rfl
  exact xl_cons (xk_aload_n hc xd_124_0 rfl) <|
    xl_cons (xk_getfield (C := xm_C3) (T := xm_T3) (N := 11) hc xd_124_1 ho rfl (by decide) xm_u3 xl_378) <|
    xl_cons (xk_iload_n hc xd_124_4 rfl) <|
    xl_cons (xk_iaload hc xd_124_5) <|
    xl_cons (xk_iconst hc xd_124_6 (by decide)) <|
    xl_cons (xk_if_icmp hc xd_124_7 (by decide)) <|
    xl_cons (xk_iconst hc xd_124_10 (by decide)) <|
    xl_cons (xk_ireturn hc xd_124_11) <|
    xl_cons (xk_iload_n hc xd_124_12 rfl) <|
    xl_cons (xk_bipush hc xd_124_13 (by decide)) <|
    xl_cons (xk_imul hc xd_124_15) <|
    xl_cons (xk_istore_n hc xd_124_16 hm rfl (by decide)) <|
    xl_cons (xk_iconst hc xd_124_17 (by decide)) <|
    xl_cons (xk_istore_n hc xd_124_18 hm rfl (by decide)) <|
    xl_cons (xk_iload_n hc xd_124_19 rfl) <|
    xl_cons (xk_iconst hc xd_124_20 (by decide)) <|
    xl_cons (xk_if_icmp hc xd_124_21 (by decide)) <|
    xl_cons (xk_aload_n hc xd_124_24 rfl) <|
    xl_cons (xk_getfield (C := xm_C3) (T := xm_T3) (N := 11) hc xd_124_25 ho rfl (by decide) xm_u3 xl_380) <|
    xl_cons (xk_iload_n hc xd_124_28 rfl) <|
    xl_cons (xk_iload_n hc xd_124_29 rfl) <|
    xl_cons (xk_iadd hc xd_124_30) <|
    xl_cons (xk_iaload hc xd_124_31) <|
    xl_cons (xk_ifCond hc xd_124_32 (by decide)) <|
    xl_cons (xk_iconst hc xd_124_35 (by decide)) <|
    xl_cons (xk_ireturn hc xd_124_36) <|
    xl_cons (xk_iinc hc xd_124_37 hm rfl (by decide) (by decide)) <|
    xl_cons (xk_goto hc xd_124_40 (by decide)) <|
    xl_cons (xk_aload_n hc xd_124_43 rfl) <|
    xl_cons (xk_getfield (C := xm_C3) (T := xm_T3) (N := 11) hc xd_124_44 ho rfl (by decide) xm_u3 xl_380) <|
    xl_cons (xk_iload_n hc xd_124_47 rfl) <|
    xl_cons (xk_iconst hc xd_124_48 (by decide)) <|
    xl_cons (xk_iadd hc xd_124_49) <|
    xl_cons (xk_iaload hc xd_124_50) <|
    xl_cons (xk_iconst hc xd_124_51 (by decide)) <|
    xl_cons (xk_if_icmp hc xd_124_52 (by decide)) <|
    xl_cons (xk_aload_n hc xd_124_55 rfl) <|
    xl_cons (xk_getfield (C := xm_C3) (T := xm_T3) (N := 11) hc xd_124_56 ho rfl (by decide) xm_u3 xl_380) <|
    xl_cons (xk_iload_n hc xd_124_59 rfl) <|
    xl_cons (xk_iconst hc xd_124_60 (by decide)) (xl_nil)
set_option maxRecDepth 100000 in
theorem xo_124_1 : ∀ e ∈ ([(61, 1, .iadd, 0, 0, .null, [], none),
  (62, 1, .iaload, 0, 0, .null, [], none),
  (63, 2, .bipush 6, 0, 0, .int 6, [], none),
  (65, 3, .if_icmp .ne 7, 72, 0, .null, [], none),
  (68, 1, .iconst 1, 0, 0, .int 1, [], none),
  (69, 3, .goto 4, 73, 0, .null, [], none),
  (72, 1, .iconst 0, 0, 0, .int 0, [], none),
  (73, 1, .ireturn, 0, 0, .null, [], none)] : List xr_E), xr_sd xm_P 124 e := by
  have hc : xp_cd xm_P 124 = prog_5_method_14_code := rfl
  have ho : xp_own xm_P 124 = "ExchangeText$Model" := rfl
  have hm : xp_ml xm_P 124 = 4 := rfl
  exact xl_cons (xk_iadd hc xd_124_61) <|
    xl_cons (xk_iaload hc xd_124_62) <|
    xl_cons (xk_bipush hc xd_124_63 (by decide)) <|
    xl_cons (xk_if_icmp hc xd_124_65 (by decide)) <|
    xl_cons (xk_iconst hc xd_124_68 (by decide)) <|
    xl_cons (xk_goto hc xd_124_69 (by decide)) <|
    xl_cons (xk_iconst hc xd_124_72 (by decide)) <|
    xl_cons (xk_ireturn hc xd_124_73) (xl_nil)
theorem xo_124 : ∀ e ∈ xm_i124, xr_sd xm_P 124 e := xl_app xo_124_0 (xo_124_1)
set_option maxRecDepth 100000 in
theorem xo_125_0 : ∀ e ∈ ([(0, 1, .iload_n 1, 1, 0, .null, [], none),
  (1, 2, .bipush 8, 0, 0, .int 8, [], none),
  (3, 1, .imul, 0, 0, .null, [], none),
  (4, 1, .iconst 3, 0, 0, .int 3, [], none),
  (5, 1, .iadd, 0, 0, .null, [], none),
  (6, 1, .istore_n 2, 2, 0, .null, [], none),
  (7, 1, .aload_n 0, 0, 0, .null, [], none),
  (8, 3, .getfield 25, 3, 7, .null, [], none),
  (11, 1, .iload_n 2, 2, 0, .null, [], none),
  (12, 1, .iaload, 0, 0, .null, [], none),
  (13, 1, .iconst 2, 0, 0, .int 2, [], none),
  (14, 3, .if_icmp .eq 5, 19, 0, .null, [], none),
  (17, 1, .iconst (-1), 0, 0, .int (-1), [], none),
  (18, 1, .ireturn, 0, 0, .null, [], none),
  (19, 1, .aload_n 0, 0, 0, .null, [], none),
  (20, 1, .aload_n 0, 0, 0, .null, [], none),
  (21, 3, .getfield 28, 3, 8, .null, [], none),
  (24, 1, .iload_n 2, 2, 0, .null, [], none),
  (25, 1, .iaload, 0, 0, .null, [], none),
  (26, 3, .invokevirtual 51, 114, 2, .retAddr 0, [], none),
  (29, 1, .istore_n 3, 3, 0, .null, [], none),
  (30, 1, .iload_n 3, 3, 0, .null, [], none),
  (31, 1, .iconst (-1), 0, 0, .int (-1), [], none),
  (32, 3, .if_icmp .eq 15, 47, 0, .null, [], none),
  (35, 1, .aload_n 0, 0, 0, .null, [], none),
  (36, 1, .iload_n 3, 3, 0, .null, [], none),
  (37, 3, .invokevirtual 59, 124, 2, .retAddr 0, [], none),
  (40, 3, .ifCond .eq 7, 47, 0, .null, [], none),
  (43, 1, .iload_n 3, 3, 0, .null, [], none),
  (44, 3, .goto 4, 48, 0, .null, [], none),
  (47, 1, .iconst (-1), 0, 0, .int (-1), [], none),
  (48, 1, .ireturn, 0, 0, .null, [], none)] : List xr_E), xr_sd xm_P 125 e := by
  have hc : xp_cd xm_P 125 = prog_5_method_15_code := rfl
  have ho : xp_own xm_P 125 = "ExchangeText$Model" := rfl
  have hm : xp_ml xm_P 125 = 4 := rfl
  exact xl_cons (xk_iload_n hc xd_125_0 rfl) <|
    xl_cons (xk_bipush hc xd_125_1 (by decide)) <|
    xl_cons (xk_imul hc xd_125_3) <|
    xl_cons (xk_iconst hc xd_125_4 (by decide)) <|
    xl_cons (xk_iadd hc xd_125_5) <|
    xl_cons (xk_istore_n hc xd_125_6 hm rfl (by decide)) <|
    xl_cons (xk_aload_n hc xd_125_7 rfl) <|
    xl_cons (xk_getfield (C := xm_C3) (T := xm_T3) (N := 11) hc xd_125_8 ho rfl (by decide) xm_u3 xl_380) <|
    xl_cons (xk_iload_n hc xd_125_11 rfl) <|
    xl_cons (xk_iaload hc xd_125_12) <|
    xl_cons (xk_iconst hc xd_125_13 (by decide)) <|
    xl_cons (xk_if_icmp hc xd_125_14 (by decide)) <|
    xl_cons (xk_iconst hc xd_125_17 (by decide)) <|
    xl_cons (xk_ireturn hc xd_125_18) <|
    xl_cons (xk_aload_n hc xd_125_19 rfl) <|
    xl_cons (xk_aload_n hc xd_125_20 rfl) <|
    xl_cons (xk_getfield (C := xm_C3) (T := xm_T3) (N := 11) hc xd_125_21 ho rfl (by decide) xm_u3 xl_381) <|
    xl_cons (xk_iload_n hc xd_125_24 rfl) <|
    xl_cons (xk_iaload hc xd_125_25) <|
    xl_cons (xk_callV (Y := xm_y114) ho rfl (by decide) ⟨by decide, by decide⟩ xl_17 hc xd_125_26 rfl (b' := 1) rfl xm_nd114 (T := xm_T3) (N := 11) rfl xl_390 xl_167 xl_168) <|
    xl_cons (xk_istore_n hc xd_125_29 hm rfl (by decide)) <|
    xl_cons (xk_iload_n hc xd_125_30 rfl) <|
    xl_cons (xk_iconst hc xd_125_31 (by decide)) <|
    xl_cons (xk_if_icmp hc xd_125_32 (by decide)) <|
    xl_cons (xk_aload_n hc xd_125_35 rfl) <|
    xl_cons (xk_iload_n hc xd_125_36 rfl) <|
    xl_cons (xk_callV (Y := xm_y124) ho rfl (by decide) ⟨by decide, by decide⟩ xl_17 hc xd_125_37 rfl (b' := 1) rfl xm_nd124 (T := xm_T3) (N := 11) rfl xl_392 xl_147 xl_148) <|
    xl_cons (xk_ifCond hc xd_125_40 (by decide)) <|
    xl_cons (xk_iload_n hc xd_125_43 rfl) <|
    xl_cons (xk_goto hc xd_125_44 (by decide)) <|
    xl_cons (xk_iconst hc xd_125_47 (by decide)) <|
    xl_cons (xk_ireturn hc xd_125_48) (xl_nil)
theorem xo_125 : ∀ e ∈ xm_i125, xr_sd xm_P 125 e := xo_125_0
set_option maxRecDepth 100000 in
theorem xo_126_0 : ∀ e ∈ ([(0, 1, .aload_n 0, 0, 0, .null, [], none),
  (1, 3, .getfield 15, 3, 4, .null, [], none),
  (4, 1, .iload_n 1, 1, 0, .null, [], none),
  (5, 1, .laload, 0, 0, .null, [], none),
  (6, 1, .aload_n 2, 2, 0, .null, [], none),
  (7, 3, .getfield 15, 3, 4, .null, [], none),
  (10, 1, .iload_n 3, 3, 0, .null, [], none),
  (11, 1, .laload, 0, 0, .null, [], none),
  (12, 1, .lcmp, 0, 0, .null, [], none),
  (13, 3, .ifCond .ne 18, 31, 0, .null, [], none),
  (16, 1, .aload_n 0, 0, 0, .null, [], none),
  (17, 3, .getfield 19, 3, 5, .null, [], none),
  (20, 1, .iload_n 1, 1, 0, .null, [], none),
  (21, 1, .iaload, 0, 0, .null, [], none),
  (22, 1, .aload_n 2, 2, 0, .null, [], none),
  (23, 3, .getfield 19, 3, 5, .null, [], none),
  (26, 1, .iload_n 3, 3, 0, .null, [], none),
  (27, 1, .iaload, 0, 0, .null, [], none),
  (28, 3, .if_icmp .eq 5, 33, 0, .null, [], none),
  (31, 1, .iconst 0, 0, 0, .int 0, [], none),
  (32, 1, .ireturn, 0, 0, .null, [], none),
  (33, 1, .iconst 0, 0, 0, .int 0, [], none),
  (34, 2, .istore 5, 5, 0, .null, [], none),
  (36, 2, .iload 5, 5, 0, .null, [], none),
  (38, 1, .aload_n 0, 0, 0, .null, [], none),
  (39, 3, .getfield 19, 3, 5, .null, [], none),
  (42, 1, .iload_n 1, 1, 0, .null, [], none),
  (43, 1, .iaload, 0, 0, .null, [], none),
  (44, 3, .if_icmp .ge 39, 83, 0, .null, [], none),
  (47, 1, .iload_n 1, 1, 0, .null, [], none),
  (48, 2, .bipush 8, 0, 0, .int 8, [], none),
  (50, 1, .imul, 0, 0, .null, [], none),
  (51, 2, .iload 5, 5, 0, .null, [], none),
  (53, 1, .iadd, 0, 0, .null, [], none),
  (54, 2, .istore 6, 6, 0, .null, [], none),
  (56, 1, .aload_n 0, 0, 0, .null, [], none),
  (57, 2, .iload 6, 6, 0, .null, [], none),
  (59, 1, .aload_n 2, 2, 0, .null, [], none),
  (60, 1, .iload_n 3, 3, 0, .null, [], none),
  (61, 2, .bipush 8, 0, 0, .int 8, [], none)] : List xr_E), xr_sd xm_P 126 e := by
  have hc : xp_cd xm_P 126 = prog_5_method_16_code := rfl
  have ho : xp_own xm_P 126 = "ExchangeText$Model" := rfl
  have hm : xp_ml xm_P 126 = 7 := rfl
  exact xl_cons (xk_aload_n hc xd_126_0 rfl) <|
    xl_cons (xk_getfield (C := xm_C3) (T := xm_T3) (N := 11) hc xd_126_1 ho rfl (by decide) xm_u3 xl_377) <|
    xl_cons (xk_iload_n hc xd_126_4 rfl) <|
    xl_cons (xk_laload hc xd_126_5) <|
    xl_cons (xk_aload_n hc xd_126_6 rfl) <|
    xl_cons (xk_getfield (C := xm_C3) (T := xm_T3) (N := 11) hc xd_126_7 ho rfl (by decide) xm_u3 xl_377) <|
    xl_cons (xk_iload_n hc xd_126_10 rfl) <|
    xl_cons (xk_laload hc xd_126_11) <|
    xl_cons (xk_lcmp hc xd_126_12) <|
    xl_cons (xk_ifCond hc xd_126_13 (by decide)) <|
    xl_cons (xk_aload_n hc xd_126_16 rfl) <|
    xl_cons (xk_getfield (C := xm_C3) (T := xm_T3) (N := 11) hc xd_126_17 ho rfl (by decide) xm_u3 xl_378) <|
    xl_cons (xk_iload_n hc xd_126_20 rfl) <|
    xl_cons (xk_iaload hc xd_126_21) <|
    xl_cons (xk_aload_n hc xd_126_22 rfl) <|
    xl_cons (xk_getfield (C := xm_C3) (T := xm_T3) (N := 11) hc xd_126_23 ho rfl (by decide) xm_u3 xl_378) <|
    xl_cons (xk_iload_n hc xd_126_26 rfl) <|
    xl_cons (xk_iaload hc xd_126_27) <|
    xl_cons (xk_if_icmp hc xd_126_28 (by decide)) <|
    xl_cons (xk_iconst hc xd_126_31 (by decide)) <|
    xl_cons (xk_ireturn hc xd_126_32) <|
    xl_cons (xk_iconst hc xd_126_33 (by decide)) <|
    xl_cons (xk_istore hc xd_126_34 hm rfl (by decide)) <|
    xl_cons (xk_iload hc xd_126_36 rfl) <|
    xl_cons (xk_aload_n hc xd_126_38 rfl) <|
    xl_cons (xk_getfield (C := xm_C3) (T := xm_T3) (N := 11) hc xd_126_39 ho rfl (by decide) xm_u3 xl_378) <|
    xl_cons (xk_iload_n hc xd_126_42 rfl) <|
    xl_cons (xk_iaload hc xd_126_43) <|
    xl_cons (xk_if_icmp hc xd_126_44 (by decide)) <|
    xl_cons (xk_iload_n hc xd_126_47 rfl) <|
    xl_cons (xk_bipush hc xd_126_48 (by decide)) <|
    xl_cons (xk_imul hc xd_126_50) <|
    xl_cons (xk_iload hc xd_126_51 rfl) <|
    xl_cons (xk_iadd hc xd_126_53) <|
    xl_cons (xk_istore hc xd_126_54 hm rfl (by decide)) <|
    xl_cons (xk_aload_n hc xd_126_56 rfl) <|
    xl_cons (xk_iload hc xd_126_57 rfl) <|
    xl_cons (xk_aload_n hc xd_126_59 rfl) <|
    xl_cons (xk_iload_n hc xd_126_60 rfl) <|
    xl_cons (xk_bipush hc xd_126_61 (by decide)) (xl_nil)
set_option maxRecDepth 100000 in
theorem xo_126_1 : ∀ e ∈ ([(63, 1, .imul, 0, 0, .null, [], none),
  (64, 2, .iload 5, 5, 0, .null, [], none),
  (66, 1, .iadd, 0, 0, .null, [], none),
  (67, 2, .aload 4, 4, 0, .null, [], none),
  (69, 3, .invokevirtual 62, 127, 5, .retAddr 0, [], none),
  (72, 3, .ifCond .ne 5, 77, 0, .null, [], none),
  (75, 1, .iconst 0, 0, 0, .int 0, [], none),
  (76, 1, .ireturn, 0, 0, .null, [], none),
  (77, 3, .iinc 5 1, 5, 0, .int 1, [], none),
  (80, 3, .goto (-44), 36, 0, .null, [], none),
  (83, 1, .iconst 1, 0, 0, .int 1, [], none),
  (84, 1, .ireturn, 0, 0, .null, [], none)] : List xr_E), xr_sd xm_P 126 e := by
  have hc : xp_cd xm_P 126 = prog_5_method_16_code := rfl
  have ho : xp_own xm_P 126 = "ExchangeText$Model" := rfl
  have hm : xp_ml xm_P 126 = 7 := rfl
  exact xl_cons (xk_imul hc xd_126_63) <|
    xl_cons (xk_iload hc xd_126_64 rfl) <|
    xl_cons (xk_iadd hc xd_126_66) <|
    xl_cons (xk_aload hc xd_126_67 rfl) <|
    xl_cons (xk_callV (Y := xm_y127) ho rfl (by decide) ⟨by decide, by decide⟩ xl_17 hc xd_126_69 rfl (b' := 4) rfl xm_nd127 (T := xm_T3) (N := 11) rfl xl_393 xl_394 xl_395) <|
    xl_cons (xk_ifCond hc xd_126_72 (by decide)) <|
    xl_cons (xk_iconst hc xd_126_75 (by decide)) <|
    xl_cons (xk_ireturn hc xd_126_76) <|
    xl_cons (xk_iinc hc xd_126_77 hm rfl (by decide) (by decide)) <|
    xl_cons (xk_goto hc xd_126_80 (by decide)) <|
    xl_cons (xk_iconst hc xd_126_83 (by decide)) <|
    xl_cons (xk_ireturn hc xd_126_84) (xl_nil)
theorem xo_126 : ∀ e ∈ xm_i126, xr_sd xm_P 126 e := xl_app xo_126_0 (xo_126_1)
