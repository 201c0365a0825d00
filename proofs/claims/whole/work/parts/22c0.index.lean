/-! the library's bytes -/
theorem xi_ix1_0 : decode prog_19_method_79_code 0 = .ok (.aload_n 0, 1) := by decide +kernel
theorem xi_ix1_1 : decode prog_19_method_79_code 1 = .ok (.iload_n 1, 1) := by decide +kernel
theorem xi_ix1_2 : decode prog_19_method_79_code 2 = .ok (.iconst 0, 1) := by decide +kernel
theorem xi_ix1_3 : decode prog_19_method_79_code 3 = .ok (.invokevirtual 633, 3) := by decide +kernel
theorem xi_ix1_6 : decode prog_19_method_79_code 6 = .ok (.ireturn, 1) := by decide +kernel
theorem xi_ix2_0 : decode prog_19_method_80_code 0 = .ok (.aload_n 0, 1) := by decide +kernel
theorem xi_ix2_1 : decode prog_19_method_80_code 1 = .ok (.invokevirtual 492, 3) := by decide +kernel
theorem xi_ix2_4 : decode prog_19_method_80_code 4 = .ok (.ifCond .eq 19, 3) := by decide +kernel
theorem xi_ix2_7 : decode prog_19_method_80_code 7 = .ok (.aload_n 0, 1) := by decide +kernel
theorem xi_ix2_8 : decode prog_19_method_80_code 8 = .ok (.getfield 9, 3) := by decide +kernel
theorem xi_ix2_11 : decode prog_19_method_80_code 11 = .ok (.iload_n 1, 1) := by decide +kernel
theorem xi_ix2_12 : decode prog_19_method_80_code 12 = .ok (.iload_n 2, 1) := by decide +kernel
theorem xi_ix2_13 : decode prog_19_method_80_code 13 = .ok (.aload_n 0, 1) := by decide +kernel
theorem xi_ix2_14 : decode prog_19_method_80_code 14 = .ok (.invokevirtual 505, 3) := by decide +kernel
theorem xi_ix2_17 : decode prog_19_method_80_code 17 = .ok (.invokestatic 637, 3) := by decide +kernel
theorem xi_ix2_20 : decode prog_19_method_80_code 20 = .ok (.goto 16, 3) := by decide +kernel
theorem xi_ix2_23 : decode prog_19_method_80_code 23 = .ok (.aload_n 0, 1) := by decide +kernel
theorem xi_ix2_24 : decode prog_19_method_80_code 24 = .ok (.getfield 9, 3) := by decide +kernel
theorem xi_ix2_27 : decode prog_19_method_80_code 27 = .ok (.iload_n 1, 1) := by decide +kernel
theorem xi_ix2_28 : decode prog_19_method_80_code 28 = .ok (.iload_n 2, 1) := by decide +kernel
theorem xi_ix2_29 : decode prog_19_method_80_code 29 = .ok (.aload_n 0, 1) := by decide +kernel
theorem xi_ix2_30 : decode prog_19_method_80_code 30 = .ok (.invokevirtual 505, 3) := by decide +kernel
theorem xi_ix2_33 : decode prog_19_method_80_code 33 = .ok (.invokestatic 640, 3) := by decide +kernel
theorem xi_ix2_36 : decode prog_19_method_80_code 36 = .ok (.ireturn, 1) := by decide +kernel
theorem xi_lat_0 : decode prog_19_method_154_code 0 = .ok (.getstatic 38, 3) := by decide +kernel
theorem xi_lat_3 : decode prog_19_method_154_code 3 = .ok (.ifCond .eq 14, 3) := by decide +kernel
theorem xi_lat_6 : decode prog_19_method_154_code 6 = .ok (.aload_n 0, 1) := by decide +kernel
theorem xi_lat_7 : decode prog_19_method_154_code 7 = .ok (.getfield 15, 3) := by decide +kernel
theorem xi_lat_10 : decode prog_19_method_154_code 10 = .ok (.ifCond .ne 7, 3) := by decide +kernel
theorem xi_lat_13 : decode prog_19_method_154_code 13 = .ok (.iconst 1, 1) := by decide +kernel
theorem xi_lat_14 : decode prog_19_method_154_code 14 = .ok (.goto 4, 3) := by decide +kernel
theorem xi_lat_17 : decode prog_19_method_154_code 17 = .ok (.iconst 0, 1) := by decide +kernel
theorem xi_lat_18 : decode prog_19_method_154_code 18 = .ok (.ireturn, 1) := by decide +kernel
theorem xi_len_0 : decode prog_19_method_54_code 0 = .ok (.aload_n 0, 1) := by decide +kernel
theorem xi_len_1 : decode prog_19_method_54_code 1 = .ok (.getfield 9, 3) := by decide +kernel
theorem xi_len_4 : decode prog_19_method_54_code 4 = .ok (.arraylength, 1) := by decide +kernel
theorem xi_len_5 : decode prog_19_method_54_code 5 = .ok (.aload_n 0, 1) := by decide +kernel
theorem xi_len_6 : decode prog_19_method_54_code 6 = .ok (.invokevirtual 335, 3) := by decide +kernel
theorem xi_len_9 : decode prog_19_method_54_code 9 = .ok (.ishr, 1) := by decide +kernel
theorem xi_len_10 : decode prog_19_method_54_code 10 = .ok (.ireturn, 1) := by decide +kernel
theorem xi_cod_0 : decode prog_19_method_152_code 0 = .ok (.getstatic 38, 3) := by decide +kernel
theorem xi_cod_3 : decode prog_19_method_152_code 3 = .ok (.ifCond .eq 10, 3) := by decide +kernel
theorem xi_cod_6 : decode prog_19_method_152_code 6 = .ok (.aload_n 0, 1) := by decide +kernel
theorem xi_cod_7 : decode prog_19_method_152_code 7 = .ok (.getfield 15, 3) := by decide +kernel
theorem xi_cod_10 : decode prog_19_method_152_code 10 = .ok (.goto 4, 3) := by decide +kernel
theorem xi_cod_13 : decode prog_19_method_152_code 13 = .ok (.iconst 1, 1) := by decide +kernel
theorem xi_cod_14 : decode prog_19_method_152_code 14 = .ok (.ireturn, 1) := by decide +kernel
theorem xi_l1_0 : decode prog_20_method_22_code 0 = .ok (.iload_n 1, 1) := by decide +kernel
theorem xi_l1_1 : decode prog_20_method_22_code 1 = .ok (.invokestatic 88, 3) := by decide +kernel
theorem xi_l1_4 : decode prog_20_method_22_code 4 = .ok (.ifCond .ne 5, 3) := by decide +kernel
theorem xi_l1_7 : decode prog_20_method_22_code 7 = .ok (.iconst (-1), 1) := by decide +kernel
theorem xi_l1_8 : decode prog_20_method_22_code 8 = .ok (.ireturn, 1) := by decide +kernel
theorem xi_l1_9 : decode prog_20_method_22_code 9 = .ok (.iload_n 2, 1) := by decide +kernel
theorem xi_l1_10 : decode prog_20_method_22_code 10 = .ok (.iconst 0, 1) := by decide +kernel
theorem xi_l1_11 : decode prog_20_method_22_code 11 = .ok (.invokestatic 92, 3) := by decide +kernel
theorem xi_l1_14 : decode prog_20_method_22_code 14 = .ok (.istore_n 2, 1) := by decide +kernel
theorem xi_l1_15 : decode prog_20_method_22_code 15 = .ok (.iload_n 3, 1) := by decide +kernel
theorem xi_l1_16 : decode prog_20_method_22_code 16 = .ok (.aload_n 0, 1) := by decide +kernel
theorem xi_l1_17 : decode prog_20_method_22_code 17 = .ok (.arraylength, 1) := by decide +kernel
theorem xi_l1_18 : decode prog_20_method_22_code 18 = .ok (.invokestatic 38, 3) := by decide +kernel
theorem xi_l1_21 : decode prog_20_method_22_code 21 = .ok (.istore_n 3, 1) := by decide +kernel
theorem xi_l1_22 : decode prog_20_method_22_code 22 = .ok (.iload_n 2, 1) := by decide +kernel
theorem xi_l1_23 : decode prog_20_method_22_code 23 = .ok (.iload_n 3, 1) := by decide +kernel
theorem xi_l1_24 : decode prog_20_method_22_code 24 = .ok (.if_icmp .lt 5, 3) := by decide +kernel
theorem xi_l1_27 : decode prog_20_method_22_code 27 = .ok (.iconst (-1), 1) := by decide +kernel
theorem xi_l1_28 : decode prog_20_method_22_code 28 = .ok (.ireturn, 1) := by decide +kernel
theorem xi_l1_29 : decode prog_20_method_22_code 29 = .ok (.aload_n 0, 1) := by decide +kernel
theorem xi_l1_30 : decode prog_20_method_22_code 30 = .ok (.iload_n 1, 1) := by decide +kernel
theorem xi_l1_31 : decode prog_20_method_22_code 31 = .ok (.iload_n 2, 1) := by decide +kernel
theorem xi_l1_32 : decode prog_20_method_22_code 32 = .ok (.iload_n 3, 1) := by decide +kernel
theorem xi_l1_33 : decode prog_20_method_22_code 33 = .ok (.invokestatic 95, 3) := by decide +kernel
theorem xi_l1_36 : decode prog_20_method_22_code 36 = .ok (.ireturn, 1) := by decide +kernel
theorem xi_can_0 : decode prog_20_method_4_code 0 = .ok (.iload_n 0, 1) := by decide +kernel
theorem xi_can_1 : decode prog_20_method_4_code 1 = .ok (.ifCond .lt 14, 3) := by decide +kernel
theorem xi_can_4 : decode prog_20_method_4_code 4 = .ok (.iload_n 0, 1) := by decide +kernel
theorem xi_can_5 : decode prog_20_method_4_code 5 = .ok (.sipush 255, 3) := by decide +kernel
theorem xi_can_8 : decode prog_20_method_4_code 8 = .ok (.if_icmp .gt 7, 3) := by decide +kernel
theorem xi_can_11 : decode prog_20_method_4_code 11 = .ok (.iconst 1, 1) := by decide +kernel
theorem xi_can_12 : decode prog_20_method_4_code 12 = .ok (.goto 4, 3) := by decide +kernel
theorem xi_can_15 : decode prog_20_method_4_code 15 = .ok (.iconst 0, 1) := by decide +kernel
theorem xi_can_16 : decode prog_20_method_4_code 16 = .ok (.ireturn, 1) := by decide +kernel
theorem xi_chr_0 : decode prog_20_method_23_code 0 = .ok (.iload_n 1, 1) := by decide +kernel
theorem xi_chr_1 : decode prog_20_method_23_code 1 = .ok (.i2b, 1) := by decide +kernel
theorem xi_chr_2 : decode prog_20_method_23_code 2 = .ok (.istore 4, 2) := by decide +kernel
theorem xi_chr_4 : decode prog_20_method_23_code 4 = .ok (.iload_n 2, 1) := by decide +kernel
theorem xi_chr_5 : decode prog_20_method_23_code 5 = .ok (.istore 5, 2) := by decide +kernel
theorem xi_chr_7 : decode prog_20_method_23_code 7 = .ok (.iload 5, 2) := by decide +kernel
theorem xi_chr_9 : decode prog_20_method_23_code 9 = .ok (.iload_n 3, 1) := by decide +kernel
theorem xi_chr_10 : decode prog_20_method_23_code 10 = .ok (.if_icmp .ge 21, 3) := by decide +kernel
theorem xi_chr_13 : decode prog_20_method_23_code 13 = .ok (.aload_n 0, 1) := by decide +kernel
theorem xi_chr_14 : decode prog_20_method_23_code 14 = .ok (.iload 5, 2) := by decide +kernel
theorem xi_chr_16 : decode prog_20_method_23_code 16 = .ok (.baload, 1) := by decide +kernel
theorem xi_chr_17 : decode prog_20_method_23_code 17 = .ok (.iload 4, 2) := by decide +kernel
theorem xi_chr_19 : decode prog_20_method_23_code 19 = .ok (.if_icmp .ne 6, 3) := by decide +kernel
theorem xi_chr_22 : decode prog_20_method_23_code 22 = .ok (.iload 5, 2) := by decide +kernel
theorem xi_chr_24 : decode prog_20_method_23_code 24 = .ok (.ireturn, 1) := by decide +kernel
theorem xi_chr_25 : decode prog_20_method_23_code 25 = .ok (.iinc 5 1, 3) := by decide +kernel
theorem xi_chr_28 : decode prog_20_method_23_code 28 = .ok (.goto (-21), 3) := by decide +kernel
theorem xi_chr_31 : decode prog_20_method_23_code 31 = .ok (.iconst (-1), 1) := by decide +kernel
theorem xi_chr_32 : decode prog_20_method_23_code 32 = .ok (.ireturn, 1) := by decide +kernel
