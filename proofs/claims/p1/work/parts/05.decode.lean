theorem d0_0 : decode bM0 0 = .ok (.aload_n 0, 1) := by decide +kernel
theorem d0_1 : decode bM0 1 = .ok (.invokespecial 1, 3) := by decide +kernel
theorem d0_4 : decode bM0 4 = .ok (.return_, 1) := by decide +kernel
theorem d1_0 : decode bM1 0 = .ok (.aload_n 0, 1) := by decide +kernel
theorem d1_1 : decode bM1 1 = .ok (.invokespecial 1, 3) := by decide +kernel
theorem d1_4 : decode bM1 4 = .ok (.aload_n 0, 1) := by decide +kernel
theorem d1_5 : decode bM1 5 = .ok (.iconst 0, 1) := by decide +kernel
theorem d1_6 : decode bM1 6 = .ok (.putfield 7, 3) := by decide +kernel
theorem d1_9 : decode bM1 9 = .ok (.return_, 1) := by decide +kernel
theorem d2_0 : decode bM2 0 = .ok (.aload_n 0, 1) := by decide +kernel
theorem d2_1 : decode bM2 1 = .ok (.invokespecial 1, 3) := by decide +kernel
theorem d2_4 : decode bM2 4 = .ok (.aload_n 0, 1) := by decide +kernel
theorem d2_5 : decode bM2 5 = .ok (.getstatic 39, 3) := by decide +kernel
theorem d2_8 : decode bM2 8 = .ok (.putfield 9, 3) := by decide +kernel
theorem d2_11 : decode bM2 11 = .ok (.return_, 1) := by decide +kernel
theorem d3_0 : decode bM3 0 = .ok (.aload_n 0, 1) := by decide +kernel
theorem d3_1 : decode bM3 1 = .ok (.invokespecial 3, 3) := by decide +kernel
theorem d3_4 : decode bM3 4 = .ok (.getstatic 18, 3) := by decide +kernel
theorem d3_7 : decode bM3 7 = .ok (.ifCond .eq 18, 3) := by decide +kernel
theorem d3_10 : decode bM3 10 = .ok (.aload_n 0, 1) := by decide +kernel
theorem d3_11 : decode bM3 11 = .ok (.iload_n 1, 1) := by decide +kernel
theorem d3_12 : decode bM3 12 = .ok (.newarray .byte, 2) := by decide +kernel
theorem d3_14 : decode bM3 14 = .ok (.putfield 15, 3) := by decide +kernel
theorem d3_17 : decode bM3 17 = .ok (.aload_n 0, 1) := by decide +kernel
theorem d3_18 : decode bM3 18 = .ok (.iconst 0, 1) := by decide +kernel
theorem d3_19 : decode bM3 19 = .ok (.putfield 22, 3) := by decide +kernel
theorem d3_22 : decode bM3 22 = .ok (.goto 16, 3) := by decide +kernel
theorem d3_38 : decode bM3 38 = .ok (.return_, 1) := by decide +kernel
theorem d4_0 : decode bM4 0 = .ok (.aload_n 0, 1) := by decide +kernel
theorem d4_1 : decode bM4 1 = .ok (.bipush 16, 2) := by decide +kernel
theorem d4_3 : decode bM4 3 = .ok (.invokespecial 1, 3) := by decide +kernel
theorem d4_6 : decode bM4 6 = .ok (.return_, 1) := by decide +kernel
theorem d5_0 : decode bM5 0 = .ok (.aload_n 0, 1) := by decide +kernel
theorem d5_1 : decode bM5 1 = .ok (.getfield 79, 3) := by decide +kernel
theorem d5_4 : decode bM5 4 = .ok (.ireturn, 1) := by decide +kernel
theorem d6_0 : decode bM6 0 = .ok (.aload_n 0, 1) := by decide +kernel
theorem d6_1 : decode bM6 1 = .ok (.invokespecial 343, 3) := by decide +kernel
theorem d6_4 : decode bM6 4 = .ok (.ireturn, 1) := by decide +kernel
theorem d7_0 : decode bM7 0 = .ok (.getstatic 18, 3) := by decide +kernel
theorem d7_3 : decode bM7 3 = .ok (.ifCond .eq 14, 3) := by decide +kernel
theorem d7_6 : decode bM7 6 = .ok (.aload_n 0, 1) := by decide +kernel
theorem d7_7 : decode bM7 7 = .ok (.getfield 22, 3) := by decide +kernel
theorem d7_10 : decode bM7 10 = .ok (.ifCond .ne 7, 3) := by decide +kernel
theorem d7_13 : decode bM7 13 = .ok (.iconst 1, 1) := by decide +kernel
theorem d7_14 : decode bM7 14 = .ok (.goto 4, 3) := by decide +kernel
theorem d7_18 : decode bM7 18 = .ok (.ireturn, 1) := by decide +kernel
theorem d8_0 : decode bM8 0 = .ok (.aload_n 0, 1) := by decide +kernel
theorem d8_1 : decode bM8 1 = .ok (.getfield 15, 3) := by decide +kernel
theorem d8_4 : decode bM8 4 = .ok (.areturn, 1) := by decide +kernel
theorem d9_0 : decode bM9 0 = .ok (.iload_n 0, 1) := by decide +kernel
theorem d9_1 : decode bM9 1 = .ok (.sipush 255, 3) := by decide +kernel
theorem d9_4 : decode bM9 4 = .ok (.if_icmp .gt 7, 3) := by decide +kernel
theorem d9_7 : decode bM9 7 = .ok (.iconst 1, 1) := by decide +kernel
theorem d9_8 : decode bM9 8 = .ok (.goto 4, 3) := by decide +kernel
theorem d9_12 : decode bM9 12 = .ok (.ireturn, 1) := by decide +kernel
theorem d10_0 : decode bM10 0 = .ok (.aload_n 0, 1) := by decide +kernel
theorem d10_1 : decode bM10 1 = .ok (.getfield 15, 3) := by decide +kernel
theorem d10_4 : decode bM10 4 = .ok (.arraylength, 1) := by decide +kernel
theorem d10_5 : decode bM10 5 = .ok (.aload_n 0, 1) := by decide +kernel
theorem d10_6 : decode bM10 6 = .ok (.getfield 22, 3) := by decide +kernel
theorem d10_9 : decode bM10 9 = .ok (.ishr, 1) := by decide +kernel
theorem d10_10 : decode bM10 10 = .ok (.istore_n 2, 1) := by decide +kernel
theorem d10_11 : decode bM10 11 = .ok (.iload_n 1, 1) := by decide +kernel
theorem d10_12 : decode bM10 12 = .ok (.iload_n 2, 1) := by decide +kernel
theorem d10_13 : decode bM10 13 = .ok (.isub, 1) := by decide +kernel
theorem d10_14 : decode bM10 14 = .ok (.ifCond .le 24, 3) := by decide +kernel
theorem d10_38 : decode bM10 38 = .ok (.return_, 1) := by decide +kernel
theorem d11_0 : decode bM11 0 = .ok (.iload_n 1, 1) := by decide +kernel
theorem d11_1 : decode bM11 1 = .ok (.ifCond .ge 12, 3) := by decide +kernel
theorem d11_13 : decode bM11 13 = .ok (.aload_n 0, 1) := by decide +kernel
theorem d11_14 : decode bM11 14 = .ok (.iload_n 1, 1) := by decide +kernel
theorem d11_15 : decode bM11 15 = .ok (.invokevirtual 100, 3) := by decide +kernel
theorem d11_18 : decode bM11 18 = .ok (.aload_n 0, 1) := by decide +kernel
theorem d11_19 : decode bM11 19 = .ok (.getfield 79, 3) := by decide +kernel
theorem d11_22 : decode bM11 22 = .ok (.iload_n 1, 1) := by decide +kernel
theorem d11_23 : decode bM11 23 = .ok (.if_icmp .ge 40, 3) := by decide +kernel
theorem d11_63 : decode bM11 63 = .ok (.aload_n 0, 1) := by decide +kernel
theorem d11_64 : decode bM11 64 = .ok (.getfield 79, 3) := by decide +kernel
theorem d11_67 : decode bM11 67 = .ok (.iload_n 1, 1) := by decide +kernel
theorem d11_68 : decode bM11 68 = .ok (.if_icmp .le 8, 3) := by decide +kernel
theorem d11_76 : decode bM11 76 = .ok (.aload_n 0, 1) := by decide +kernel
theorem d11_77 : decode bM11 77 = .ok (.iload_n 1, 1) := by decide +kernel
theorem d11_78 : decode bM11 78 = .ok (.putfield 79, 3) := by decide +kernel
theorem d11_81 : decode bM11 81 = .ok (.return_, 1) := by decide +kernel
theorem d12_0 : decode bM12 0 = .ok (.aload_n 0, 1) := by decide +kernel
theorem d12_1 : decode bM12 1 = .ok (.iload_n 1, 1) := by decide +kernel
theorem d12_2 : decode bM12 2 = .ok (.invokespecial 333, 3) := by decide +kernel
theorem d12_5 : decode bM12 5 = .ok (.return_, 1) := by decide +kernel
theorem d13_0 : decode bM13 0 = .ok (.aload_n 0, 1) := by decide +kernel
theorem d13_1 : decode bM13 1 = .ok (.aload_n 0, 1) := by decide +kernel
theorem d13_2 : decode bM13 2 = .ok (.getfield 79, 3) := by decide +kernel
theorem d13_5 : decode bM13 5 = .ok (.iconst 1, 1) := by decide +kernel
theorem d13_6 : decode bM13 6 = .ok (.iadd, 1) := by decide +kernel
theorem d13_7 : decode bM13 7 = .ok (.invokevirtual 100, 3) := by decide +kernel
theorem d13_10 : decode bM13 10 = .ok (.aload_n 0, 1) := by decide +kernel
theorem d13_11 : decode bM13 11 = .ok (.invokevirtual 83, 3) := by decide +kernel
theorem d13_14 : decode bM13 14 = .ok (.ifCond .eq 31, 3) := by decide +kernel
theorem d13_17 : decode bM13 17 = .ok (.iload_n 1, 1) := by decide +kernel
theorem d13_18 : decode bM13 18 = .ok (.invokestatic 191, 3) := by decide +kernel
theorem d13_21 : decode bM13 21 = .ok (.ifCond .eq 24, 3) := by decide +kernel
theorem d13_24 : decode bM13 24 = .ok (.aload_n 0, 1) := by decide +kernel
theorem d13_25 : decode bM13 25 = .ok (.getfield 15, 3) := by decide +kernel
theorem d13_28 : decode bM13 28 = .ok (.aload_n 0, 1) := by decide +kernel
theorem d13_29 : decode bM13 29 = .ok (.dup, 1) := by decide +kernel
theorem d13_30 : decode bM13 30 = .ok (.getfield 79, 3) := by decide +kernel
theorem d13_33 : decode bM13 33 = .ok (.dup_x1, 1) := by decide +kernel
theorem d13_34 : decode bM13 34 = .ok (.iconst 1, 1) := by decide +kernel
theorem d13_35 : decode bM13 35 = .ok (.iadd, 1) := by decide +kernel
theorem d13_36 : decode bM13 36 = .ok (.putfield 79, 3) := by decide +kernel
theorem d13_39 : decode bM13 39 = .ok (.iload_n 1, 1) := by decide +kernel
theorem d13_40 : decode bM13 40 = .ok (.i2b, 1) := by decide +kernel
theorem d13_41 : decode bM13 41 = .ok (.bastore, 1) := by decide +kernel
theorem d13_42 : decode bM13 42 = .ok (.goto 33, 3) := by decide +kernel
theorem d13_75 : decode bM13 75 = .ok (.aload_n 0, 1) := by decide +kernel
theorem d13_76 : decode bM13 76 = .ok (.areturn, 1) := by decide +kernel
theorem d14_0 : decode bM14 0 = .ok (.aload_n 0, 1) := by decide +kernel
theorem d14_1 : decode bM14 1 = .ok (.iload_n 1, 1) := by decide +kernel
theorem d14_2 : decode bM14 2 = .ok (.invokespecial 50, 3) := by decide +kernel
theorem d14_5 : decode bM14 5 = .ok (.pop, 1) := by decide +kernel
theorem d14_6 : decode bM14 6 = .ok (.aload_n 0, 1) := by decide +kernel
theorem d14_7 : decode bM14 7 = .ok (.areturn, 1) := by decide +kernel
theorem d15_0 : decode bM15 0 = .ok (.iload_n 1, 1) := by decide +kernel
theorem d15_1 : decode bM15 1 = .ok (.iload_n 0, 1) := by decide +kernel
theorem d15_2 : decode bM15 2 = .ok (.if_icmp .ge 35, 3) := by decide +kernel
theorem d15_37 : decode bM15 37 = .ok (.return_, 1) := by decide +kernel
theorem d16_0 : decode bM16 0 = .ok (.iload_n 0, 1) := by decide +kernel
theorem d16_1 : decode bM16 1 = .ok (.iload_n 1, 1) := by decide +kernel
theorem d16_2 : decode bM16 2 = .ok (.if_icmp .gt 7, 3) := by decide +kernel
theorem d16_9 : decode bM16 9 = .ok (.iload_n 1, 1) := by decide +kernel
theorem d16_10 : decode bM16 10 = .ok (.ireturn, 1) := by decide +kernel
theorem d17_0 : decode bM17 0 = .ok (.iload_n 1, 1) := by decide +kernel
theorem d17_1 : decode bM17 1 = .ok (.iload_n 2, 1) := by decide +kernel
theorem d17_2 : decode bM17 2 = .ok (.invokestatic 343, 3) := by decide +kernel
theorem d17_5 : decode bM17 5 = .ok (.iload_n 2, 1) := by decide +kernel
theorem d17_6 : decode bM17 6 = .ok (.iload_n 1, 1) := by decide +kernel
theorem d17_7 : decode bM17 7 = .ok (.isub, 1) := by decide +kernel
theorem d17_8 : decode bM17 8 = .ok (.istore_n 3, 1) := by decide +kernel
theorem d17_9 : decode bM17 9 = .ok (.iload_n 3, 1) := by decide +kernel
theorem d17_10 : decode bM17 10 = .ok (.newarray .byte, 2) := by decide +kernel
theorem d17_12 : decode bM17 12 = .ok (.astore 4, 2) := by decide +kernel
theorem d17_14 : decode bM17 14 = .ok (.aload_n 0, 1) := by decide +kernel
theorem d17_15 : decode bM17 15 = .ok (.iload_n 1, 1) := by decide +kernel
theorem d17_16 : decode bM17 16 = .ok (.aload 4, 2) := by decide +kernel
theorem d17_18 : decode bM17 18 = .ok (.iconst 0, 1) := by decide +kernel
theorem d17_19 : decode bM17 19 = .ok (.aload_n 0, 1) := by decide +kernel
theorem d17_20 : decode bM17 20 = .ok (.arraylength, 1) := by decide +kernel
theorem d17_21 : decode bM17 21 = .ok (.iload_n 1, 1) := by decide +kernel
theorem d17_22 : decode bM17 22 = .ok (.isub, 1) := by decide +kernel
theorem d17_23 : decode bM17 23 = .ok (.iload_n 3, 1) := by decide +kernel
theorem d17_24 : decode bM17 24 = .ok (.invokestatic 304, 3) := by decide +kernel
theorem d17_27 : decode bM17 27 = .ok (.invokestatic 150, 3) := by decide +kernel
theorem d17_30 : decode bM17 30 = .ok (.aload 4, 2) := by decide +kernel
theorem d17_32 : decode bM17 32 = .ok (.areturn, 1) := by decide +kernel
theorem d18_0 : decode bM18 0 = .ok (.iload_n 1, 1) := by decide +kernel
theorem d18_1 : decode bM18 1 = .ok (.ifCond .ne 9, 3) := by decide +kernel
theorem d18_4 : decode bM18 4 = .ok (.iload_n 2, 1) := by decide +kernel
theorem d18_5 : decode bM18 5 = .ok (.aload_n 0, 1) := by decide +kernel
theorem d18_6 : decode bM18 6 = .ok (.arraylength, 1) := by decide +kernel
theorem d18_7 : decode bM18 7 = .ok (.if_icmp .eq 10, 3) := by decide +kernel
theorem d18_10 : decode bM18 10 = .ok (.aload_n 0, 1) := by decide +kernel
theorem d18_11 : decode bM18 11 = .ok (.iload_n 1, 1) := by decide +kernel
theorem d18_12 : decode bM18 12 = .ok (.iload_n 2, 1) := by decide +kernel
theorem d18_13 : decode bM18 13 = .ok (.invokestatic 339, 3) := by decide +kernel
theorem d18_16 : decode bM18 16 = .ok (.areturn, 1) := by decide +kernel
theorem d19_0 : decode bM19 0 = .ok (.aload_n 0, 1) := by decide +kernel
theorem d19_1 : decode bM19 1 = .ok (.invokespecial 1, 3) := by decide +kernel
theorem d19_4 : decode bM19 4 = .ok (.aload_n 1, 1) := by decide +kernel
theorem d19_5 : decode bM19 5 = .ok (.invokevirtual 552, 3) := by decide +kernel
theorem d19_8 : decode bM19 8 = .ok (.astore_n 3, 1) := by decide +kernel
theorem d19_9 : decode bM19 9 = .ok (.aload_n 1, 1) := by decide +kernel
theorem d19_10 : decode bM19 10 = .ok (.invokevirtual 549, 3) := by decide +kernel
theorem d19_13 : decode bM19 13 = .ok (.istore 4, 2) := by decide +kernel
theorem d19_15 : decode bM19 15 = .ok (.aload_n 1, 1) := by decide +kernel
theorem d19_16 : decode bM19 16 = .ok (.invokevirtual 1047, 3) := by decide +kernel
theorem d19_19 : decode bM19 19 = .ok (.ifCond .eq 22, 3) := by decide +kernel
theorem d19_22 : decode bM19 22 = .ok (.aload_n 0, 1) := by decide +kernel
theorem d19_23 : decode bM19 23 = .ok (.iconst 0, 1) := by decide +kernel
theorem d19_24 : decode bM19 24 = .ok (.putfield 15, 3) := by decide +kernel
theorem d19_27 : decode bM19 27 = .ok (.aload_n 0, 1) := by decide +kernel
theorem d19_28 : decode bM19 28 = .ok (.aload_n 3, 1) := by decide +kernel
theorem d19_29 : decode bM19 29 = .ok (.iconst 0, 1) := by decide +kernel
theorem d19_30 : decode bM19 30 = .ok (.iload 4, 2) := by decide +kernel
theorem d19_32 : decode bM19 32 = .ok (.invokestatic 54, 3) := by decide +kernel
theorem d19_35 : decode bM19 35 = .ok (.putfield 9, 3) := by decide +kernel
theorem d19_38 : decode bM19 38 = .ok (.goto 59, 3) := by decide +kernel
theorem d19_97 : decode bM19 97 = .ok (.return_, 1) := by decide +kernel
theorem d20_0 : decode bM20 0 = .ok (.aload_n 0, 1) := by decide +kernel
theorem d20_1 : decode bM20 1 = .ok (.aload_n 1, 1) := by decide +kernel
theorem d20_2 : decode bM20 2 = .ok (.aconst_null, 1) := by decide +kernel
theorem d20_3 : decode bM20 3 = .ok (.invokespecial 489, 3) := by decide +kernel
theorem d20_6 : decode bM20 6 = .ok (.return_, 1) := by decide +kernel
theorem d21_0 : decode bM21 0 = .ok (.new 18, 3) := by decide +kernel
theorem d21_3 : decode bM21 3 = .ok (.dup, 1) := by decide +kernel
theorem d21_4 : decode bM21 4 = .ok (.aload_n 0, 1) := by decide +kernel
theorem d21_5 : decode bM21 5 = .ok (.invokespecial 137, 3) := by decide +kernel
theorem d21_8 : decode bM21 8 = .ok (.areturn, 1) := by decide +kernel
theorem d22_0 : decode bM22 0 = .ok (.getstatic 38, 3) := by decide +kernel
theorem d22_3 : decode bM22 3 = .ok (.ifCond .eq 10, 3) := by decide +kernel
theorem d22_6 : decode bM22 6 = .ok (.aload_n 0, 1) := by decide +kernel
theorem d22_7 : decode bM22 7 = .ok (.getfield 15, 3) := by decide +kernel
theorem d22_10 : decode bM22 10 = .ok (.goto 4, 3) := by decide +kernel
theorem d22_14 : decode bM22 14 = .ok (.ireturn, 1) := by decide +kernel
theorem d23_0 : decode bM23 0 = .ok (.aload_n 0, 1) := by decide +kernel
theorem d23_1 : decode bM23 1 = .ok (.getfield 9, 3) := by decide +kernel
theorem d23_4 : decode bM23 4 = .ok (.arraylength, 1) := by decide +kernel
theorem d23_5 : decode bM23 5 = .ok (.aload_n 0, 1) := by decide +kernel
theorem d23_6 : decode bM23 6 = .ok (.invokevirtual 335, 3) := by decide +kernel
theorem d23_9 : decode bM23 9 = .ok (.ishr, 1) := by decide +kernel
theorem d23_10 : decode bM23 10 = .ok (.ireturn, 1) := by decide +kernel
theorem d24_0 : decode bM24 0 = .ok (.aload_n 0, 1) := by decide +kernel
theorem d24_1 : decode bM24 1 = .ok (.invokespecial 3, 3) := by decide +kernel
theorem d24_4 : decode bM24 4 = .ok (.aload_n 0, 1) := by decide +kernel
theorem d24_5 : decode bM24 5 = .ok (.sipush 200, 3) := by decide +kernel
theorem d24_8 : decode bM24 8 = .ok (.anewarray 9, 3) := by decide +kernel
theorem d24_11 : decode bM24 11 = .ok (.putfield 11, 3) := by decide +kernel
theorem d24_14 : decode bM24 14 = .ok (.aload_n 0, 1) := by decide +kernel
theorem d24_15 : decode bM24 15 = .ok (.bipush 40, 2) := by decide +kernel
theorem d24_17 : decode bM24 17 = .ok (.anewarray 9, 3) := by decide +kernel
theorem d24_20 : decode bM24 20 = .ok (.putfield 17, 3) := by decide +kernel
theorem d24_23 : decode bM24 23 = .ok (.aload_n 0, 1) := by decide +kernel
theorem d24_24 : decode bM24 24 = .ok (.bipush 40, 2) := by decide +kernel
theorem d24_26 : decode bM24 26 = .ok (.anewarray 9, 3) := by decide +kernel
theorem d24_29 : decode bM24 29 = .ok (.putfield 20, 3) := by decide +kernel
theorem d24_32 : decode bM24 32 = .ok (.return_, 1) := by decide +kernel
theorem d25_0 : decode bM25 0 = .ok (.iload_n 1, 1) := by decide +kernel
theorem d25_1 : decode bM25 1 = .ok (.ifCond .lt 24, 3) := by decide +kernel
theorem d25_4 : decode bM25 4 = .ok (.iload_n 1, 1) := by decide +kernel
theorem d25_5 : decode bM25 5 = .ok (.aload_n 0, 1) := by decide +kernel
theorem d25_6 : decode bM25 6 = .ok (.getfield 23, 3) := by decide +kernel
theorem d25_9 : decode bM25 9 = .ok (.if_icmp .ge 16, 3) := by decide +kernel
theorem d25_25 : decode bM25 25 = .ok (.aconst_null, 1) := by decide +kernel
theorem d25_26 : decode bM25 26 = .ok (.areturn, 1) := by decide +kernel
theorem d26_0 : decode bM26 0 = .ok (.iconst 0, 1) := by decide +kernel
theorem d26_1 : decode bM26 1 = .ok (.istore_n 1, 1) := by decide +kernel
theorem d26_2 : decode bM26 2 = .ok (.iload_n 1, 1) := by decide +kernel
theorem d26_3 : decode bM26 3 = .ok (.aload_n 0, 1) := by decide +kernel
theorem d26_4 : decode bM26 4 = .ok (.getfield 30, 3) := by decide +kernel
theorem d26_7 : decode bM26 7 = .ok (.if_icmp .ge 39, 3) := by decide +kernel
theorem d26_46 : decode bM26 46 = .ok (.aload_n 0, 1) := by decide +kernel
theorem d26_47 : decode bM26 47 = .ok (.aload_n 0, 1) := by decide +kernel
theorem d26_48 : decode bM26 48 = .ok (.getfield 30, 3) := by decide +kernel
theorem d26_51 : decode bM26 51 = .ok (.putfield 66, 3) := by decide +kernel
theorem d26_54 : decode bM26 54 = .ok (.return_, 1) := by decide +kernel
theorem d27_0 : decode bM27 0 = .ok (.iconst 0, 1) := by decide +kernel
theorem d27_1 : decode bM27 1 = .ok (.istore_n 1, 1) := by decide +kernel
theorem d27_2 : decode bM27 2 = .ok (.iload_n 1, 1) := by decide +kernel
theorem d27_3 : decode bM27 3 = .ok (.aload_n 0, 1) := by decide +kernel
theorem d27_4 : decode bM27 4 = .ok (.getfield 30, 3) := by decide +kernel
theorem d27_7 : decode bM27 7 = .ok (.if_icmp .ge 19, 3) := by decide +kernel
theorem d27_26 : decode bM27 26 = .ok (.return_, 1) := by decide +kernel
theorem d28_0 : decode bM28 0 = .ok (.iload_n 1, 1) := by decide +kernel
theorem d28_1 : decode bM28 1 = .ok (.istore_n 3, 1) := by decide +kernel
theorem d28_2 : decode bM28 2 = .ok (.iload_n 3, 1) := by decide +kernel
theorem d28_3 : decode bM28 3 = .ok (.iload_n 2, 1) := by decide +kernel
theorem d28_4 : decode bM28 4 = .ok (.if_icmp .ge 19, 3) := by decide +kernel
theorem d28_23 : decode bM28 23 = .ok (.iload_n 2, 1) := by decide +kernel
theorem d28_24 : decode bM28 24 = .ok (.istore_n 3, 1) := by decide +kernel
theorem d28_25 : decode bM28 25 = .ok (.iload_n 3, 1) := by decide +kernel
theorem d28_26 : decode bM28 26 = .ok (.aload_n 0, 1) := by decide +kernel
theorem d28_27 : decode bM28 27 = .ok (.getfield 30, 3) := by decide +kernel
theorem d28_30 : decode bM28 30 = .ok (.if_icmp .ge 25, 3) := by decide +kernel
theorem d28_55 : decode bM28 55 = .ok (.aload_n 0, 1) := by decide +kernel
theorem d28_56 : decode bM28 56 = .ok (.dup, 1) := by decide +kernel
theorem d28_57 : decode bM28 57 = .ok (.getfield 30, 3) := by decide +kernel
theorem d28_60 : decode bM28 60 = .ok (.iload_n 2, 1) := by decide +kernel
theorem d28_61 : decode bM28 61 = .ok (.iload_n 1, 1) := by decide +kernel
theorem d28_62 : decode bM28 62 = .ok (.isub, 1) := by decide +kernel
theorem d28_63 : decode bM28 63 = .ok (.isub, 1) := by decide +kernel
theorem d28_64 : decode bM28 64 = .ok (.putfield 30, 3) := by decide +kernel
theorem d28_67 : decode bM28 67 = .ok (.aload_n 0, 1) := by decide +kernel
theorem d28_68 : decode bM28 68 = .ok (.invokevirtual 52, 3) := by decide +kernel
theorem d28_71 : decode bM28 71 = .ok (.return_, 1) := by decide +kernel
theorem d29_0 : decode bM29 0 = .ok (.aload_n 0, 1) := by decide +kernel
theorem d29_1 : decode bM29 1 = .ok (.iconst 0, 1) := by decide +kernel
theorem d29_2 : decode bM29 2 = .ok (.aload_n 0, 1) := by decide +kernel
theorem d29_3 : decode bM29 3 = .ok (.getfield 30, 3) := by decide +kernel
theorem d29_6 : decode bM29 6 = .ok (.invokevirtual 55, 3) := by decide +kernel
theorem d29_9 : decode bM29 9 = .ok (.return_, 1) := by decide +kernel
theorem d30_0 : decode bM30 0 = .ok (.aload_n 0, 1) := by decide +kernel
theorem d30_1 : decode bM30 1 = .ok (.invokevirtual 69, 3) := by decide +kernel
theorem d30_4 : decode bM30 4 = .ok (.iconst 0, 1) := by decide +kernel
theorem d30_5 : decode bM30 5 = .ok (.istore_n 1, 1) := by decide +kernel
theorem d30_6 : decode bM30 6 = .ok (.iload_n 1, 1) := by decide +kernel
theorem d30_7 : decode bM30 7 = .ok (.aload_n 0, 1) := by decide +kernel
theorem d30_8 : decode bM30 8 = .ok (.getfield 66, 3) := by decide +kernel
theorem d30_11 : decode bM30 11 = .ok (.if_icmp .ge 39, 3) := by decide +kernel
theorem d30_50 : decode bM30 50 = .ok (.aload_n 0, 1) := by decide +kernel
theorem d30_51 : decode bM30 51 = .ok (.aload_n 0, 1) := by decide +kernel
theorem d30_52 : decode bM30 52 = .ok (.getfield 66, 3) := by decide +kernel
theorem d30_55 : decode bM30 55 = .ok (.putfield 30, 3) := by decide +kernel
theorem d30_58 : decode bM30 58 = .ok (.aload_n 0, 1) := by decide +kernel
theorem d30_59 : decode bM30 59 = .ok (.invokevirtual 52, 3) := by decide +kernel
theorem d30_62 : decode bM30 62 = .ok (.return_, 1) := by decide +kernel
theorem d31_0 : decode bM31 0 = .ok (.aload_n 0, 1) := by decide +kernel
theorem d31_1 : decode bM31 1 = .ok (.invokespecial 3, 3) := by decide +kernel
theorem d31_4 : decode bM31 4 = .ok (.aload_n 0, 1) := by decide +kernel
theorem d31_5 : decode bM31 5 = .ok (.aload_n 1, 1) := by decide +kernel
theorem d31_6 : decode bM31 6 = .ok (.putfield 9, 3) := by decide +kernel
theorem d31_9 : decode bM31 9 = .ok (.aload_n 0, 1) := by decide +kernel
theorem d31_10 : decode bM31 10 = .ok (.iconst 0, 1) := by decide +kernel
theorem d31_11 : decode bM31 11 = .ok (.putfield 15, 3) := by decide +kernel
theorem d31_14 : decode bM31 14 = .ok (.aload_n 0, 1) := by decide +kernel
theorem d31_15 : decode bM31 15 = .ok (.iconst (-1), 1) := by decide +kernel
theorem d31_16 : decode bM31 16 = .ok (.putfield 19, 3) := by decide +kernel
theorem d31_19 : decode bM31 19 = .ok (.return_, 1) := by decide +kernel
theorem d32_0 : decode bM32 0 = .ok (.aload_n 0, 1) := by decide +kernel
theorem d32_1 : decode bM32 1 = .ok (.aload_n 1, 1) := by decide +kernel
theorem d32_2 : decode bM32 2 = .ok (.invokespecial 3, 3) := by decide +kernel
theorem d32_5 : decode bM32 5 = .ok (.aload_n 0, 1) := by decide +kernel
theorem d32_6 : decode bM32 6 = .ok (.new 9, 3) := by decide +kernel
theorem d32_9 : decode bM32 9 = .ok (.dup, 1) := by decide +kernel
theorem d32_10 : decode bM32 10 = .ok (.invokespecial 11, 3) := by decide +kernel
theorem d32_13 : decode bM32 13 = .ok (.putfield 14, 3) := by decide +kernel
theorem d32_16 : decode bM32 16 = .ok (.aload_n 0, 1) := by decide +kernel
theorem d32_17 : decode bM32 17 = .ok (.aload_n 2, 1) := by decide +kernel
theorem d32_18 : decode bM32 18 = .ok (.putfield 20, 3) := by decide +kernel
theorem d32_21 : decode bM32 21 = .ok (.aload_n 0, 1) := by decide +kernel
theorem d32_22 : decode bM32 22 = .ok (.iconst 0, 1) := by decide +kernel
theorem d32_23 : decode bM32 23 = .ok (.putfield 24, 3) := by decide +kernel
theorem d32_26 : decode bM32 26 = .ok (.return_, 1) := by decide +kernel
theorem d33_0 : decode bM33 0 = .ok (.iload_n 1, 1) := by decide +kernel
theorem d33_1 : decode bM33 1 = .ok (.aload_n 0, 1) := by decide +kernel
theorem d33_2 : decode bM33 2 = .ok (.getfield 9, 3) := by decide +kernel
theorem d33_5 : decode bM33 5 = .ok (.invokevirtual 22, 3) := by decide +kernel
theorem d33_8 : decode bM33 8 = .ok (.if_icmp .ge 14, 3) := by decide +kernel
theorem d33_22 : decode bM33 22 = .ok (.iconst 0, 1) := by decide +kernel
theorem d33_23 : decode bM33 23 = .ok (.ireturn, 1) := by decide +kernel
theorem d34_0 : decode bM34 0 = .ok (.aload_n 0, 1) := by decide +kernel
theorem d34_1 : decode bM34 1 = .ok (.iload_n 1, 1) := by decide +kernel
theorem d34_2 : decode bM34 2 = .ok (.putfield 19, 3) := by decide +kernel
theorem d34_5 : decode bM34 5 = .ok (.iconst 0, 1) := by decide +kernel
theorem d34_6 : decode bM34 6 = .ok (.ireturn, 1) := by decide +kernel
theorem d35_0 : decode bM35 0 = .ok (.aload_n 0, 1) := by decide +kernel
theorem d35_1 : decode bM35 1 = .ok (.getfield 19, 3) := by decide +kernel
theorem d35_4 : decode bM35 4 = .ok (.iconst (-1), 1) := by decide +kernel
theorem d35_5 : decode bM35 5 = .ok (.if_icmp .eq 7, 3) := by decide +kernel
theorem d35_8 : decode bM35 8 = .ok (.iconst 1, 1) := by decide +kernel
theorem d35_9 : decode bM35 9 = .ok (.goto 4, 3) := by decide +kernel
theorem d35_13 : decode bM35 13 = .ok (.ireturn, 1) := by decide +kernel
theorem d36_0 : decode bM36 0 = .ok (.aload_n 0, 1) := by decide +kernel
theorem d36_1 : decode bM36 1 = .ok (.iconst 0, 1) := by decide +kernel
theorem d36_2 : decode bM36 2 = .ok (.invokevirtual 56, 3) := by decide +kernel
theorem d36_5 : decode bM36 5 = .ok (.bipush 60, 2) := by decide +kernel
theorem d36_7 : decode bM36 7 = .ok (.if_icmp .eq 9, 3) := by decide +kernel
theorem d36_10 : decode bM36 10 = .ok (.aload_n 0, 1) := by decide +kernel
theorem d36_11 : decode bM36 11 = .ok (.iconst 0, 1) := by decide +kernel
theorem d36_12 : decode bM36 12 = .ok (.invokevirtual 60, 3) := by decide +kernel
theorem d36_15 : decode bM36 15 = .ok (.ireturn, 1) := by decide +kernel
theorem d37_0 : decode bM37 0 = .ok (.aload_n 0, 1) := by decide +kernel
theorem d37_1 : decode bM37 1 = .ok (.invokespecial 3, 3) := by decide +kernel
theorem d37_4 : decode bM37 4 = .ok (.aload_n 0, 1) := by decide +kernel
theorem d37_5 : decode bM37 5 = .ok (.iload_n 1, 1) := by decide +kernel
theorem d37_6 : decode bM37 6 = .ok (.putfield 9, 3) := by decide +kernel
theorem d37_9 : decode bM37 9 = .ok (.aload_n 0, 1) := by decide +kernel
theorem d37_10 : decode bM37 10 = .ok (.iconst 0, 1) := by decide +kernel
theorem d37_11 : decode bM37 11 = .ok (.putfield 15, 3) := by decide +kernel
theorem d37_14 : decode bM37 14 = .ok (.aload_n 0, 1) := by decide +kernel
theorem d37_15 : decode bM37 15 = .ok (.iconst 0, 1) := by decide +kernel
theorem d37_16 : decode bM37 16 = .ok (.putfield 18, 3) := by decide +kernel
theorem d37_19 : decode bM37 19 = .ok (.return_, 1) := by decide +kernel
theorem d38_0 : decode bM38 0 = .ok (.aload_n 1, 1) := by decide +kernel
theorem d38_1 : decode bM38 1 = .ok (.astore_n 3, 1) := by decide +kernel
theorem d38_2 : decode bM38 2 = .ok (.aload_n 3, 1) := by decide +kernel
theorem d38_3 : decode bM38 3 = .ok (.ifnull 36, 3) := by decide +kernel
theorem d38_39 : decode bM38 39 = .ok (.return_, 1) := by decide +kernel
theorem d39_0 : decode bM39 0 = .ok (.aconst_null, 1) := by decide +kernel
theorem d39_1 : decode bM39 1 = .ok (.astore_n 2, 1) := by decide +kernel
theorem d39_2 : decode bM39 2 = .ok (.iconst 0, 1) := by decide +kernel
theorem d39_3 : decode bM39 3 = .ok (.istore_n 3, 1) := by decide +kernel
theorem d39_4 : decode bM39 4 = .ok (.iload_n 3, 1) := by decide +kernel
theorem d39_5 : decode bM39 5 = .ok (.aload_n 1, 1) := by decide +kernel
theorem d39_6 : decode bM39 6 = .ok (.getfield 21, 3) := by decide +kernel
theorem d39_9 : decode bM39 9 = .ok (.if_icmp .ge 130, 3) := by decide +kernel
theorem d39_139 : decode bM39 139 = .ok (.aload_n 0, 1) := by decide +kernel
theorem d39_140 : decode bM39 140 = .ok (.aload_n 2, 1) := by decide +kernel
theorem d39_141 : decode bM39 141 = .ok (.aconst_null, 1) := by decide +kernel
theorem d39_142 : decode bM39 142 = .ok (.invokevirtual 36, 3) := by decide +kernel
theorem d39_145 : decode bM39 145 = .ok (.return_, 1) := by decide +kernel
theorem d40_0 : decode bM40 0 = .ok (.aload_n 0, 1) := by decide +kernel
theorem d40_1 : decode bM40 1 = .ok (.invokespecial 1, 3) := by decide +kernel
theorem d40_4 : decode bM40 4 = .ok (.aload_n 0, 1) := by decide +kernel
theorem d40_5 : decode bM40 5 = .ok (.new 7, 3) := by decide +kernel
theorem d40_8 : decode bM40 8 = .ok (.dup, 1) := by decide +kernel
theorem d40_9 : decode bM40 9 = .ok (.invokespecial 9, 3) := by decide +kernel
theorem d40_12 : decode bM40 12 = .ok (.putfield 10, 3) := by decide +kernel
theorem d40_15 : decode bM40 15 = .ok (.aload_n 0, 1) := by decide +kernel
theorem d40_16 : decode bM40 16 = .ok (.new 7, 3) := by decide +kernel
theorem d40_19 : decode bM40 19 = .ok (.dup, 1) := by decide +kernel
theorem d40_20 : decode bM40 20 = .ok (.invokespecial 9, 3) := by decide +kernel
theorem d40_23 : decode bM40 23 = .ok (.putfield 16, 3) := by decide +kernel
theorem d40_26 : decode bM40 26 = .ok (.aload_n 0, 1) := by decide +kernel
theorem d40_27 : decode bM40 27 = .ok (.new 19, 3) := by decide +kernel
theorem d40_30 : decode bM40 30 = .ok (.dup, 1) := by decide +kernel
theorem d40_31 : decode bM40 31 = .ok (.invokespecial 21, 3) := by decide +kernel
theorem d40_34 : decode bM40 34 = .ok (.putfield 22, 3) := by decide +kernel
theorem d40_37 : decode bM40 37 = .ok (.aload_n 0, 1) := by decide +kernel
theorem d40_38 : decode bM40 38 = .ok (.bipush 40, 2) := by decide +kernel
theorem d40_40 : decode bM40 40 = .ok (.newarray .int, 2) := by decide +kernel
theorem d40_42 : decode bM40 42 = .ok (.putfield 26, 3) := by decide +kernel
theorem d40_45 : decode bM40 45 = .ok (.aload_n 0, 1) := by decide +kernel
theorem d40_46 : decode bM40 46 = .ok (.iconst 0, 1) := by decide +kernel
theorem d40_47 : decode bM40 47 = .ok (.putfield 30, 3) := by decide +kernel
theorem d40_50 : decode bM40 50 = .ok (.aload_n 0, 1) := by decide +kernel
theorem d40_51 : decode bM40 51 = .ok (.iconst 0, 1) := by decide +kernel
theorem d40_52 : decode bM40 52 = .ok (.putfield 34, 3) := by decide +kernel
theorem d40_55 : decode bM40 55 = .ok (.return_, 1) := by decide +kernel
theorem d41_0 : decode bM41 0 = .ok (.aload_n 0, 1) := by decide +kernel
theorem d41_1 : decode bM41 1 = .ok (.getfield 10, 3) := by decide +kernel
theorem d41_4 : decode bM41 4 = .ok (.invokevirtual 233, 3) := by decide +kernel
theorem d41_7 : decode bM41 7 = .ok (.astore_n 1, 1) := by decide +kernel
theorem d41_8 : decode bM41 8 = .ok (.aload_n 0, 1) := by decide +kernel
theorem d41_9 : decode bM41 9 = .ok (.getfield 10, 3) := by decide +kernel
theorem d41_12 : decode bM41 12 = .ok (.iconst 0, 1) := by decide +kernel
theorem d41_13 : decode bM41 13 = .ok (.invokevirtual 190, 3) := by decide +kernel
theorem d41_16 : decode bM41 16 = .ok (.aload_n 1, 1) := by decide +kernel
theorem d41_17 : decode bM41 17 = .ok (.areturn, 1) := by decide +kernel
theorem d42_0 : decode bM42 0 = .ok (.aload_n 0, 1) := by decide +kernel
theorem d42_1 : decode bM42 1 = .ok (.getfield 22, 3) := by decide +kernel
theorem d42_4 : decode bM42 4 = .ok (.invokevirtual 236, 3) := by decide +kernel
theorem d42_7 : decode bM42 7 = .ok (.aload_n 0, 1) := by decide +kernel
theorem d42_8 : decode bM42 8 = .ok (.iconst 0, 1) := by decide +kernel
theorem d42_9 : decode bM42 9 = .ok (.putfield 34, 3) := by decide +kernel
theorem d42_12 : decode bM42 12 = .ok (.return_, 1) := by decide +kernel
theorem d43_0 : decode bM43 0 = .ok (.iload_n 1, 1) := by decide +kernel
theorem d43_1 : decode bM43 1 = .ok (.bipush 32, 2) := by decide +kernel
theorem d43_3 : decode bM43 3 = .ok (.if_icmp .lt 21, 3) := by decide +kernel
theorem d43_6 : decode bM43 6 = .ok (.iload_n 1, 1) := by decide +kernel
theorem d43_7 : decode bM43 7 = .ok (.bipush 126, 2) := by decide +kernel
theorem d43_9 : decode bM43 9 = .ok (.if_icmp .gt 15, 3) := by decide +kernel
theorem d43_12 : decode bM43 12 = .ok (.aload_n 0, 1) := by decide +kernel
theorem d43_13 : decode bM43 13 = .ok (.getfield 10, 3) := by decide +kernel
theorem d43_16 : decode bM43 16 = .ok (.invokevirtual 37, 3) := by decide +kernel
theorem d43_19 : decode bM43 19 = .ok (.bipush 120, 2) := by decide +kernel
theorem d43_21 : decode bM43 21 = .ok (.if_icmp .lt 5, 3) := by decide +kernel
theorem d43_24 : decode bM43 24 = .ok (.iconst 0, 1) := by decide +kernel
theorem d43_25 : decode bM43 25 = .ok (.ireturn, 1) := by decide +kernel
theorem d43_26 : decode bM43 26 = .ok (.aload_n 0, 1) := by decide +kernel
theorem d43_27 : decode bM43 27 = .ok (.getfield 10, 3) := by decide +kernel
theorem d43_30 : decode bM43 30 = .ok (.iload_n 1, 1) := by decide +kernel
theorem d43_31 : decode bM43 31 = .ok (.invokevirtual 41, 3) := by decide +kernel
theorem d43_34 : decode bM43 34 = .ok (.pop, 1) := by decide +kernel
theorem d43_35 : decode bM43 35 = .ok (.iconst 1, 1) := by decide +kernel
theorem d43_36 : decode bM43 36 = .ok (.ireturn, 1) := by decide +kernel
theorem d44_0 : decode bM44 0 = .ok (.new 45, 3) := by decide +kernel
theorem d44_3 : decode bM44 3 = .ok (.dup, 1) := by decide +kernel
theorem d44_4 : decode bM44 4 = .ok (.aload_n 0, 1) := by decide +kernel
theorem d44_5 : decode bM44 5 = .ok (.invokevirtual 47, 3) := by decide +kernel
theorem d44_8 : decode bM44 8 = .ok (.aload_n 0, 1) := by decide +kernel
theorem d44_9 : decode bM44 9 = .ok (.getfield 16, 3) := by decide +kernel
theorem d44_12 : decode bM44 12 = .ok (.invokespecial 51, 3) := by decide +kernel
theorem d44_15 : decode bM44 15 = .ok (.astore_n 1, 1) := by decide +kernel
theorem d44_16 : decode bM44 16 = .ok (.aload_n 1, 1) := by decide +kernel
theorem d44_17 : decode bM44 17 = .ok (.invokevirtual 54, 3) := by decide +kernel
theorem d44_20 : decode bM44 20 = .ok (.pop, 1) := by decide +kernel
theorem d44_21 : decode bM44 21 = .ok (.aload_n 1, 1) := by decide +kernel
theorem d44_22 : decode bM44 22 = .ok (.invokevirtual 58, 3) := by decide +kernel
theorem d44_25 : decode bM44 25 = .ok (.ifCond .eq 10, 3) := by decide +kernel
theorem d44_28 : decode bM44 28 = .ok (.iconst (-1), 1) := by decide +kernel
theorem d44_29 : decode bM44 29 = .ok (.aload_n 1, 1) := by decide +kernel
theorem d44_30 : decode bM44 30 = .ok (.getfield 61, 3) := by decide +kernel
theorem d44_33 : decode bM44 33 = .ok (.isub, 1) := by decide +kernel
theorem d44_34 : decode bM44 34 = .ok (.ireturn, 1) := by decide +kernel
theorem d45_0 : decode bM45 0 = .ok (.aload_n 0, 1) := by decide +kernel
theorem d45_1 : decode bM45 1 = .ok (.invokevirtual 47, 3) := by decide +kernel
theorem d45_4 : decode bM45 4 = .ok (.astore_n 3, 1) := by decide +kernel
theorem d45_5 : decode bM45 5 = .ok (.aload_n 0, 1) := by decide +kernel
theorem d45_6 : decode bM45 6 = .ok (.getfield 22, 3) := by decide +kernel
theorem d45_9 : decode bM45 9 = .ok (.iload_n 1, 1) := by decide +kernel
theorem d45_10 : decode bM45 10 = .ok (.invokevirtual 90, 3) := by decide +kernel
theorem d45_13 : decode bM45 13 = .ok (.astore 4, 2) := by decide +kernel
theorem d45_15 : decode bM45 15 = .ok (.aload 4, 2) := by decide +kernel
theorem d45_17 : decode bM45 17 = .ok (.ifnonnull 7, 3) := by decide +kernel
theorem d45_20 : decode bM45 20 = .ok (.sipush (-1000), 3) := by decide +kernel
theorem d45_23 : decode bM45 23 = .ok (.ireturn, 1) := by decide +kernel
theorem d46_0 : decode bM46 0 = .ok (.aload_n 0, 1) := by decide +kernel
theorem d46_1 : decode bM46 1 = .ok (.getfield 22, 3) := by decide +kernel
theorem d46_4 : decode bM46 4 = .ok (.iload_n 1, 1) := by decide +kernel
theorem d46_5 : decode bM46 5 = .ok (.invokevirtual 90, 3) := by decide +kernel
theorem d46_8 : decode bM46 8 = .ok (.astore_n 2, 1) := by decide +kernel
theorem d46_9 : decode bM46 9 = .ok (.aload_n 2, 1) := by decide +kernel
theorem d46_10 : decode bM46 10 = .ok (.ifnonnull 7, 3) := by decide +kernel
theorem d46_13 : decode bM46 13 = .ok (.sipush (-1000), 3) := by decide +kernel
theorem d46_16 : decode bM46 16 = .ok (.ireturn, 1) := by decide +kernel
theorem d47_0 : decode bM47 0 = .ok (.aload_n 0, 1) := by decide +kernel
theorem d47_1 : decode bM47 1 = .ok (.invokevirtual 47, 3) := by decide +kernel
theorem d47_4 : decode bM47 4 = .ok (.astore_n 2, 1) := by decide +kernel
theorem d47_5 : decode bM47 5 = .ok (.aload_n 0, 1) := by decide +kernel
theorem d47_6 : decode bM47 6 = .ok (.getfield 22, 3) := by decide +kernel
theorem d47_9 : decode bM47 9 = .ok (.iload_n 1, 1) := by decide +kernel
theorem d47_10 : decode bM47 10 = .ok (.invokevirtual 90, 3) := by decide +kernel
theorem d47_13 : decode bM47 13 = .ok (.astore_n 3, 1) := by decide +kernel
theorem d47_14 : decode bM47 14 = .ok (.aload_n 3, 1) := by decide +kernel
theorem d47_15 : decode bM47 15 = .ok (.ifnull 14, 3) := by decide +kernel
theorem d47_29 : decode bM47 29 = .ok (.iconst 0, 1) := by decide +kernel
theorem d47_30 : decode bM47 30 = .ok (.ireturn, 1) := by decide +kernel
theorem d48_0 : decode bM48 0 = .ok (.aload_n 0, 1) := by decide +kernel
theorem d48_1 : decode bM48 1 = .ok (.invokevirtual 47, 3) := by decide +kernel
theorem d48_4 : decode bM48 4 = .ok (.astore_n 2, 1) := by decide +kernel
theorem d48_5 : decode bM48 5 = .ok (.aload_n 0, 1) := by decide +kernel
theorem d48_6 : decode bM48 6 = .ok (.getfield 22, 3) := by decide +kernel
theorem d48_9 : decode bM48 9 = .ok (.iload_n 1, 1) := by decide +kernel
theorem d48_10 : decode bM48 10 = .ok (.invokevirtual 90, 3) := by decide +kernel
theorem d48_13 : decode bM48 13 = .ok (.astore_n 3, 1) := by decide +kernel
theorem d48_14 : decode bM48 14 = .ok (.aload_n 3, 1) := by decide +kernel
theorem d48_15 : decode bM48 15 = .ok (.ifnonnull 7, 3) := by decide +kernel
theorem d48_18 : decode bM48 18 = .ok (.sipush (-1000), 3) := by decide +kernel
theorem d48_21 : decode bM48 21 = .ok (.ireturn, 1) := by decide +kernel
theorem d49_0 : decode bM49 0 = .ok (.iload_n 1, 1) := by decide +kernel
theorem d49_1 : decode bM49 1 = .ok (.ifCond .lt 20, 3) := by decide +kernel
theorem d49_4 : decode bM49 4 = .ok (.iload_n 1, 1) := by decide +kernel
theorem d49_5 : decode bM49 5 = .ok (.aload_n 0, 1) := by decide +kernel
theorem d49_6 : decode bM49 6 = .ok (.getfield 30, 3) := by decide +kernel
theorem d49_9 : decode bM49 9 = .ok (.if_icmp .ge 12, 3) := by decide +kernel
theorem d49_21 : decode bM49 21 = .ok (.sipush (-1000), 3) := by decide +kernel
theorem d49_24 : decode bM49 24 = .ok (.ireturn, 1) := by decide +kernel
theorem d50_0 : decode bM50 0 = .ok (.aload_n 0, 1) := by decide +kernel
theorem d50_1 : decode bM50 1 = .ok (.getfield 34, 3) := by decide +kernel
theorem d50_4 : decode bM50 4 = .ok (.istore_n 1, 1) := by decide +kernel
theorem d50_5 : decode bM50 5 = .ok (.aload_n 0, 1) := by decide +kernel
theorem d50_6 : decode bM50 6 = .ok (.invokevirtual 87, 3) := by decide +kernel
theorem d50_9 : decode bM50 9 = .ok (.iload_n 1, 1) := by decide +kernel
theorem d50_10 : decode bM50 10 = .ok (.ireturn, 1) := by decide +kernel
theorem d51_0 : decode bM51 0 = .ok (.aload_n 0, 1) := by decide +kernel
theorem d51_1 : decode bM51 1 = .ok (.getfield 34, 3) := by decide +kernel
theorem d51_4 : decode bM51 4 = .ok (.istore_n 1, 1) := by decide +kernel
theorem d51_5 : decode bM51 5 = .ok (.aload_n 0, 1) := by decide +kernel
theorem d51_6 : decode bM51 6 = .ok (.getfield 10, 3) := by decide +kernel
theorem d51_9 : decode bM51 9 = .ok (.iconst 0, 1) := by decide +kernel
theorem d51_10 : decode bM51 10 = .ok (.invokevirtual 190, 3) := by decide +kernel
theorem d51_13 : decode bM51 13 = .ok (.aload_n 0, 1) := by decide +kernel
theorem d51_14 : decode bM51 14 = .ok (.getfield 22, 3) := by decide +kernel
theorem d51_17 : decode bM51 17 = .ok (.invokevirtual 194, 3) := by decide +kernel
theorem d51_20 : decode bM51 20 = .ok (.aload_n 0, 1) := by decide +kernel
theorem d51_21 : decode bM51 21 = .ok (.invokevirtual 87, 3) := by decide +kernel
theorem d51_24 : decode bM51 24 = .ok (.iload_n 1, 1) := by decide +kernel
theorem d51_25 : decode bM51 25 = .ok (.ireturn, 1) := by decide +kernel
theorem d52_0 : decode bM52 0 = .ok (.aload_n 0, 1) := by decide +kernel
theorem d52_1 : decode bM52 1 = .ok (.getfield 22, 3) := by decide +kernel
theorem d52_4 : decode bM52 4 = .ok (.iload_n 1, 1) := by decide +kernel
theorem d52_5 : decode bM52 5 = .ok (.invokevirtual 90, 3) := by decide +kernel
theorem d52_8 : decode bM52 8 = .ok (.astore_n 2, 1) := by decide +kernel
theorem d52_9 : decode bM52 9 = .ok (.aload_n 2, 1) := by decide +kernel
theorem d52_10 : decode bM52 10 = .ok (.ifnonnull 9, 3) := by decide +kernel
theorem d52_13 : decode bM52 13 = .ok (.sipush (-1000), 3) := by decide +kernel
theorem d52_16 : decode bM52 16 = .ok (.goto 7, 3) := by decide +kernel
theorem d52_23 : decode bM52 23 = .ok (.ireturn, 1) := by decide +kernel
theorem d53_0 : decode bM53 0 = .ok (.aload_n 0, 1) := by decide +kernel
theorem d53_1 : decode bM53 1 = .ok (.getfield 22, 3) := by decide +kernel
theorem d53_4 : decode bM53 4 = .ok (.iload_n 1, 1) := by decide +kernel
theorem d53_5 : decode bM53 5 = .ok (.invokevirtual 90, 3) := by decide +kernel
theorem d53_8 : decode bM53 8 = .ok (.astore_n 3, 1) := by decide +kernel
theorem d53_9 : decode bM53 9 = .ok (.aload_n 3, 1) := by decide +kernel
theorem d53_10 : decode bM53 10 = .ok (.ifnonnull 7, 3) := by decide +kernel
theorem d53_13 : decode bM53 13 = .ok (.sipush (-1000), 3) := by decide +kernel
theorem d53_16 : decode bM53 16 = .ok (.ireturn, 1) := by decide +kernel
theorem d54_0 : decode bM54 0 = .ok (.aload_n 0, 1) := by decide +kernel
theorem d54_1 : decode bM54 1 = .ok (.getfield 22, 3) := by decide +kernel
theorem d54_4 : decode bM54 4 = .ok (.iload_n 1, 1) := by decide +kernel
theorem d54_5 : decode bM54 5 = .ok (.invokevirtual 90, 3) := by decide +kernel
theorem d54_8 : decode bM54 8 = .ok (.astore_n 3, 1) := by decide +kernel
theorem d54_9 : decode bM54 9 = .ok (.aload_n 3, 1) := by decide +kernel
theorem d54_10 : decode bM54 10 = .ok (.ifnull 18, 3) := by decide +kernel
theorem d54_28 : decode bM54 28 = .ok (.iconst 0, 1) := by decide +kernel
theorem d54_29 : decode bM54 29 = .ok (.goto 11, 3) := by decide +kernel
theorem d54_40 : decode bM54 40 = .ok (.ireturn, 1) := by decide +kernel
theorem d55_0 : decode bM55 0 = .ok (.aload_n 0, 1) := by decide +kernel
theorem d55_1 : decode bM55 1 = .ok (.getfield 22, 3) := by decide +kernel
theorem d55_4 : decode bM55 4 = .ok (.iload_n 1, 1) := by decide +kernel
theorem d55_5 : decode bM55 5 = .ok (.invokevirtual 90, 3) := by decide +kernel
theorem d55_8 : decode bM55 8 = .ok (.astore_n 3, 1) := by decide +kernel
theorem d55_9 : decode bM55 9 = .ok (.aload_n 3, 1) := by decide +kernel
theorem d55_10 : decode bM55 10 = .ok (.ifnull 16, 3) := by decide +kernel
theorem d55_26 : decode bM55 26 = .ok (.iconst 0, 1) := by decide +kernel
theorem d55_27 : decode bM55 27 = .ok (.goto 9, 3) := by decide +kernel
theorem d55_36 : decode bM55 36 = .ok (.ireturn, 1) := by decide +kernel
theorem d56_0 : decode bM56 0 = .ok (.aload_n 0, 1) := by decide +kernel
theorem d56_1 : decode bM56 1 = .ok (.getfield 22, 3) := by decide +kernel
theorem d56_4 : decode bM56 4 = .ok (.getfield 200, 3) := by decide +kernel
theorem d56_7 : decode bM56 7 = .ok (.ifCond .ne 9, 3) := by decide +kernel
theorem d56_10 : decode bM56 10 = .ok (.sipush (-1000), 3) := by decide +kernel
theorem d56_13 : decode bM56 13 = .ok (.goto 15, 3) := by decide +kernel
theorem d56_28 : decode bM56 28 = .ok (.ireturn, 1) := by decide +kernel
theorem d57_0 : decode bM57 0 = .ok (.aload_n 0, 1) := by decide +kernel
theorem d57_1 : decode bM57 1 = .ok (.getfield 22, 3) := by decide +kernel
theorem d57_4 : decode bM57 4 = .ok (.getfield 200, 3) := by decide +kernel
theorem d57_7 : decode bM57 7 = .ok (.ireturn, 1) := by decide +kernel
theorem d58_0 : decode bM58 0 = .ok (.new 220, 3) := by decide +kernel
theorem d58_3 : decode bM58 3 = .ok (.dup, 1) := by decide +kernel
theorem d58_4 : decode bM58 4 = .ok (.iconst (-1), 1) := by decide +kernel
theorem d58_5 : decode bM58 5 = .ok (.invokespecial 222, 3) := by decide +kernel
theorem d58_8 : decode bM58 8 = .ok (.astore_n 1, 1) := by decide +kernel
theorem d58_9 : decode bM58 9 = .ok (.aload_n 1, 1) := by decide +kernel
theorem d58_10 : decode bM58 10 = .ok (.aload_n 0, 1) := by decide +kernel
theorem d58_11 : decode bM58 11 = .ok (.getfield 22, 3) := by decide +kernel
theorem d58_14 : decode bM58 14 = .ok (.invokevirtual 224, 3) := by decide +kernel
theorem d58_17 : decode bM58 17 = .ok (.aload_n 1, 1) := by decide +kernel
theorem d58_18 : decode bM58 18 = .ok (.getfield 227, 3) := by decide +kernel
theorem d58_21 : decode bM58 21 = .ok (.ireturn, 1) := by decide +kernel
theorem d59_0 : decode bM59 0 = .ok (.new 220, 3) := by decide +kernel
theorem d59_3 : decode bM59 3 = .ok (.dup, 1) := by decide +kernel
theorem d59_4 : decode bM59 4 = .ok (.iload_n 1, 1) := by decide +kernel
theorem d59_5 : decode bM59 5 = .ok (.invokespecial 222, 3) := by decide +kernel
theorem d59_8 : decode bM59 8 = .ok (.astore_n 2, 1) := by decide +kernel
theorem d59_9 : decode bM59 9 = .ok (.aload_n 2, 1) := by decide +kernel
theorem d59_10 : decode bM59 10 = .ok (.aload_n 0, 1) := by decide +kernel
theorem d59_11 : decode bM59 11 = .ok (.getfield 22, 3) := by decide +kernel
theorem d59_14 : decode bM59 14 = .ok (.invokevirtual 224, 3) := by decide +kernel
theorem d59_17 : decode bM59 17 = .ok (.aload_n 2, 1) := by decide +kernel
theorem d59_18 : decode bM59 18 = .ok (.getfield 230, 3) := by decide +kernel
theorem d59_21 : decode bM59 21 = .ok (.ireturn, 1) := by decide +kernel
theorem d60_0 : decode bM60 0 = .ok (.aload_n 0, 1) := by decide +kernel
theorem d60_1 : decode bM60 1 = .ok (.invokespecial 1, 3) := by decide +kernel
theorem d60_4 : decode bM60 4 = .ok (.aload_n 0, 1) := by decide +kernel
theorem d60_5 : decode bM60 5 = .ok (.sipush 5161, 3) := by decide +kernel
theorem d60_8 : decode bM60 8 = .ok (.newarray .int, 2) := by decide +kernel
theorem d60_10 : decode bM60 10 = .ok (.putfield 7, 3) := by decide +kernel
theorem d60_13 : decode bM60 13 = .ok (.aload_n 0, 1) := by decide +kernel
theorem d60_14 : decode bM60 14 = .ok (.sipush 5161, 3) := by decide +kernel
theorem d60_17 : decode bM60 17 = .ok (.newarray .int, 2) := by decide +kernel
theorem d60_19 : decode bM60 19 = .ok (.putfield 13, 3) := by decide +kernel
theorem d60_22 : decode bM60 22 = .ok (.aload_n 0, 1) := by decide +kernel
theorem d60_23 : decode bM60 23 = .ok (.sipush 5120, 3) := by decide +kernel
theorem d60_26 : decode bM60 26 = .ok (.newarray .int, 2) := by decide +kernel
theorem d60_28 : decode bM60 28 = .ok (.putfield 16, 3) := by decide +kernel
theorem d60_31 : decode bM60 31 = .ok (.aload_n 0, 1) := by decide +kernel
theorem d60_32 : decode bM60 32 = .ok (.bipush 40, 2) := by decide +kernel
theorem d60_34 : decode bM60 34 = .ok (.newarray .int, 2) := by decide +kernel
theorem d60_36 : decode bM60 36 = .ok (.putfield 19, 3) := by decide +kernel
theorem d60_39 : decode bM60 39 = .ok (.aload_n 0, 1) := by decide +kernel
theorem d60_40 : decode bM60 40 = .ok (.bipush 120, 2) := by decide +kernel
theorem d60_42 : decode bM60 42 = .ok (.newarray .char, 2) := by decide +kernel
theorem d60_44 : decode bM60 44 = .ok (.putfield 22, 3) := by decide +kernel
theorem d60_47 : decode bM60 47 = .ok (.aload_n 0, 1) := by decide +kernel
theorem d60_48 : decode bM60 48 = .ok (.bipush 8, 2) := by decide +kernel
theorem d60_50 : decode bM60 50 = .ok (.newarray .int, 2) := by decide +kernel
theorem d60_52 : decode bM60 52 = .ok (.putfield 26, 3) := by decide +kernel
theorem d60_55 : decode bM60 55 = .ok (.aload_n 0, 1) := by decide +kernel
theorem d60_56 : decode bM60 56 = .ok (.bipush 8, 2) := by decide +kernel
theorem d60_58 : decode bM60 58 = .ok (.newarray .int, 2) := by decide +kernel
theorem d60_60 : decode bM60 60 = .ok (.putfield 29, 3) := by decide +kernel
theorem d60_63 : decode bM60 63 = .ok (.aload_n 0, 1) := by decide +kernel
theorem d60_64 : decode bM60 64 = .ok (.bipush 8, 2) := by decide +kernel
theorem d60_66 : decode bM60 66 = .ok (.newarray .int, 2) := by decide +kernel
theorem d60_68 : decode bM60 68 = .ok (.putfield 32, 3) := by decide +kernel
theorem d60_71 : decode bM60 71 = .ok (.aload_n 0, 1) := by decide +kernel
theorem d60_72 : decode bM60 72 = .ok (.bipush 30, 2) := by decide +kernel
theorem d60_74 : decode bM60 74 = .ok (.newarray .int, 2) := by decide +kernel
theorem d60_76 : decode bM60 76 = .ok (.putfield 35, 3) := by decide +kernel
theorem d60_79 : decode bM60 79 = .ok (.aload_n 0, 1) := by decide +kernel
theorem d60_80 : decode bM60 80 = .ok (.bipush 30, 2) := by decide +kernel
theorem d60_82 : decode bM60 82 = .ok (.newarray .int, 2) := by decide +kernel
theorem d60_84 : decode bM60 84 = .ok (.putfield 38, 3) := by decide +kernel
theorem d60_87 : decode bM60 87 = .ok (.aload_n 0, 1) := by decide +kernel
theorem d60_88 : decode bM60 88 = .ok (.bipush 40, 2) := by decide +kernel
theorem d60_90 : decode bM60 90 = .ok (.newarray .int, 2) := by decide +kernel
theorem d60_92 : decode bM60 92 = .ok (.putfield 41, 3) := by decide +kernel
theorem d60_95 : decode bM60 95 = .ok (.aload_n 0, 1) := by decide +kernel
theorem d60_96 : decode bM60 96 = .ok (.sipush 130, 3) := by decide +kernel
theorem d60_99 : decode bM60 99 = .ok (.newarray .int, 2) := by decide +kernel
theorem d60_101 : decode bM60 101 = .ok (.putfield 44, 3) := by decide +kernel
theorem d60_104 : decode bM60 104 = .ok (.aload_n 0, 1) := by decide +kernel
theorem d60_105 : decode bM60 105 = .ok (.sipush 130, 3) := by decide +kernel
theorem d60_108 : decode bM60 108 = .ok (.newarray .int, 2) := by decide +kernel
theorem d60_110 : decode bM60 110 = .ok (.putfield 47, 3) := by decide +kernel
theorem d60_113 : decode bM60 113 = .ok (.aload_n 0, 1) := by decide +kernel
theorem d60_114 : decode bM60 114 = .ok (.sipush 130, 3) := by decide +kernel
theorem d60_117 : decode bM60 117 = .ok (.newarray .int, 2) := by decide +kernel
theorem d60_119 : decode bM60 119 = .ok (.putfield 50, 3) := by decide +kernel
theorem d60_122 : decode bM60 122 = .ok (.aload_n 0, 1) := by decide +kernel
theorem d60_123 : decode bM60 123 = .ok (.sipush 130, 3) := by decide +kernel
theorem d60_126 : decode bM60 126 = .ok (.newarray .int, 2) := by decide +kernel
theorem d60_128 : decode bM60 128 = .ok (.putfield 53, 3) := by decide +kernel
theorem d60_131 : decode bM60 131 = .ok (.aload_n 0, 1) := by decide +kernel
theorem d60_132 : decode bM60 132 = .ok (.sipush 130, 3) := by decide +kernel
theorem d60_135 : decode bM60 135 = .ok (.newarray .int, 2) := by decide +kernel
theorem d60_137 : decode bM60 137 = .ok (.putfield 56, 3) := by decide +kernel
theorem d60_140 : decode bM60 140 = .ok (.aload_n 0, 1) := by decide +kernel
theorem d60_141 : decode bM60 141 = .ok (.sipush 130, 3) := by decide +kernel
theorem d60_144 : decode bM60 144 = .ok (.newarray .int, 2) := by decide +kernel
theorem d60_146 : decode bM60 146 = .ok (.putfield 59, 3) := by decide +kernel
theorem d60_149 : decode bM60 149 = .ok (.aload_n 0, 1) := by decide +kernel
theorem d60_150 : decode bM60 150 = .ok (.bipush 65, 2) := by decide +kernel
theorem d60_152 : decode bM60 152 = .ok (.newarray .int, 2) := by decide +kernel
theorem d60_154 : decode bM60 154 = .ok (.putfield 62, 3) := by decide +kernel
theorem d60_157 : decode bM60 157 = .ok (.aload_n 0, 1) := by decide +kernel
theorem d60_158 : decode bM60 158 = .ok (.bipush 65, 2) := by decide +kernel
theorem d60_160 : decode bM60 160 = .ok (.newarray .int, 2) := by decide +kernel
theorem d60_162 : decode bM60 162 = .ok (.putfield 65, 3) := by decide +kernel
theorem d60_165 : decode bM60 165 = .ok (.aload_n 0, 1) := by decide +kernel
theorem d60_166 : decode bM60 166 = .ok (.bipush 65, 2) := by decide +kernel
theorem d60_168 : decode bM60 168 = .ok (.newarray .int, 2) := by decide +kernel
theorem d60_170 : decode bM60 170 = .ok (.putfield 68, 3) := by decide +kernel
theorem d60_173 : decode bM60 173 = .ok (.aload_n 0, 1) := by decide +kernel
theorem d60_174 : decode bM60 174 = .ok (.bipush 65, 2) := by decide +kernel
theorem d60_176 : decode bM60 176 = .ok (.newarray .int, 2) := by decide +kernel
theorem d60_178 : decode bM60 178 = .ok (.putfield 71, 3) := by decide +kernel
theorem d60_181 : decode bM60 181 = .ok (.aload_n 0, 1) := by decide +kernel
theorem d60_182 : decode bM60 182 = .ok (.bipush 65, 2) := by decide +kernel
theorem d60_184 : decode bM60 184 = .ok (.newarray .int, 2) := by decide +kernel
theorem d60_186 : decode bM60 186 = .ok (.putfield 74, 3) := by decide +kernel
theorem d60_189 : decode bM60 189 = .ok (.aload_n 0, 1) := by decide +kernel
theorem d60_190 : decode bM60 190 = .ok (.bipush 65, 2) := by decide +kernel
theorem d60_192 : decode bM60 192 = .ok (.newarray .int, 2) := by decide +kernel
theorem d60_194 : decode bM60 194 = .ok (.putfield 77, 3) := by decide +kernel
theorem d60_197 : decode bM60 197 = .ok (.aload_n 0, 1) := by decide +kernel
theorem d60_198 : decode bM60 198 = .ok (.bipush 65, 2) := by decide +kernel
theorem d60_200 : decode bM60 200 = .ok (.newarray .int, 2) := by decide +kernel
theorem d60_202 : decode bM60 202 = .ok (.putfield 80, 3) := by decide +kernel
theorem d60_205 : decode bM60 205 = .ok (.aload_n 0, 1) := by decide +kernel
theorem d60_206 : decode bM60 206 = .ok (.bipush 65, 2) := by decide +kernel
theorem d60_208 : decode bM60 208 = .ok (.newarray .int, 2) := by decide +kernel
theorem d60_210 : decode bM60 210 = .ok (.putfield 83, 3) := by decide +kernel
theorem d60_213 : decode bM60 213 = .ok (.aload_n 0, 1) := by decide +kernel
theorem d60_214 : decode bM60 214 = .ok (.bipush 65, 2) := by decide +kernel
theorem d60_216 : decode bM60 216 = .ok (.newarray .boolean, 2) := by decide +kernel
theorem d60_218 : decode bM60 218 = .ok (.putfield 86, 3) := by decide +kernel
theorem d60_221 : decode bM60 221 = .ok (.aload_n 0, 1) := by decide +kernel
theorem d60_222 : decode bM60 222 = .ok (.bipush 65, 2) := by decide +kernel
theorem d60_224 : decode bM60 224 = .ok (.newarray .boolean, 2) := by decide +kernel
theorem d60_226 : decode bM60 226 = .ok (.putfield 90, 3) := by decide +kernel
theorem d60_229 : decode bM60 229 = .ok (.aload_n 0, 1) := by decide +kernel
theorem d60_230 : decode bM60 230 = .ok (.bipush 65, 2) := by decide +kernel
theorem d60_232 : decode bM60 232 = .ok (.newarray .long, 2) := by decide +kernel
theorem d60_234 : decode bM60 234 = .ok (.putfield 93, 3) := by decide +kernel
theorem d60_237 : decode bM60 237 = .ok (.aload_n 0, 1) := by decide +kernel
theorem d60_238 : decode bM60 238 = .ok (.bipush 65, 2) := by decide +kernel
theorem d60_240 : decode bM60 240 = .ok (.newarray .int, 2) := by decide +kernel
theorem d60_242 : decode bM60 242 = .ok (.putfield 97, 3) := by decide +kernel
theorem d60_245 : decode bM60 245 = .ok (.aload_n 0, 1) := by decide +kernel
theorem d60_246 : decode bM60 246 = .ok (.iconst 5, 1) := by decide +kernel
theorem d60_247 : decode bM60 247 = .ok (.newarray .int, 2) := by decide +kernel
theorem d60_249 : decode bM60 249 = .ok (.putfield 100, 3) := by decide +kernel
theorem d60_252 : decode bM60 252 = .ok (.aload_n 0, 1) := by decide +kernel
theorem d60_253 : decode bM60 253 = .ok (.iconst 5, 1) := by decide +kernel
theorem d60_254 : decode bM60 254 = .ok (.newarray .int, 2) := by decide +kernel
theorem d60_256 : decode bM60 256 = .ok (.putfield 103, 3) := by decide +kernel
theorem d60_259 : decode bM60 259 = .ok (.aload_n 0, 1) := by decide +kernel
theorem d60_260 : decode bM60 260 = .ok (.iconst 5, 1) := by decide +kernel
theorem d60_261 : decode bM60 261 = .ok (.newarray .int, 2) := by decide +kernel
theorem d60_263 : decode bM60 263 = .ok (.putfield 106, 3) := by decide +kernel
theorem d60_266 : decode bM60 266 = .ok (.aload_n 0, 1) := by decide +kernel
theorem d60_267 : decode bM60 267 = .ok (.bipush 41, 2) := by decide +kernel
theorem d60_269 : decode bM60 269 = .ok (.newarray .int, 2) := by decide +kernel
theorem d60_271 : decode bM60 271 = .ok (.putfield 109, 3) := by decide +kernel
theorem d60_274 : decode bM60 274 = .ok (.aload_n 0, 1) := by decide +kernel
theorem d60_275 : decode bM60 275 = .ok (.bipush 40, 2) := by decide +kernel
theorem d60_277 : decode bM60 277 = .ok (.newarray .int, 2) := by decide +kernel
theorem d60_279 : decode bM60 279 = .ok (.putfield 112, 3) := by decide +kernel
theorem d60_282 : decode bM60 282 = .ok (.return_, 1) := by decide +kernel
theorem d61_0 : decode bM61 0 = .ok (.aload_n 0, 1) := by decide +kernel
theorem d61_1 : decode bM61 1 = .ok (.getfield 7, 3) := by decide +kernel
theorem d61_4 : decode bM61 4 = .ok (.sipush 5160, 3) := by decide +kernel
theorem d61_7 : decode bM61 7 = .ok (.iaload, 1) := by decide +kernel
theorem d61_8 : decode bM61 8 = .ok (.ireturn, 1) := by decide +kernel
theorem d62_0 : decode bM62 0 = .ok (.iconst 0, 1) := by decide +kernel
theorem d62_1 : decode bM62 1 = .ok (.istore_n 2, 1) := by decide +kernel
theorem d62_2 : decode bM62 2 = .ok (.iload_n 2, 1) := by decide +kernel
theorem d62_3 : decode bM62 3 = .ok (.aload_n 0, 1) := by decide +kernel
theorem d62_4 : decode bM62 4 = .ok (.invokevirtual 115, 3) := by decide +kernel
theorem d62_7 : decode bM62 7 = .ok (.if_icmp .ge 31, 3) := by decide +kernel
theorem d62_38 : decode bM62 38 = .ok (.iconst (-1), 1) := by decide +kernel
theorem d62_39 : decode bM62 39 = .ok (.ireturn, 1) := by decide +kernel
theorem d63_0 : decode bM63 0 = .ok (.iload_n 1, 1) := by decide +kernel
theorem d63_1 : decode bM63 1 = .ok (.bipush 32, 2) := by decide +kernel
theorem d63_3 : decode bM63 3 = .ok (.if_icmp .lt 18, 3) := by decide +kernel
theorem d63_6 : decode bM63 6 = .ok (.iload_n 1, 1) := by decide +kernel
theorem d63_7 : decode bM63 7 = .ok (.bipush 126, 2) := by decide +kernel
theorem d63_9 : decode bM63 9 = .ok (.if_icmp .gt 12, 3) := by decide +kernel
theorem d63_12 : decode bM63 12 = .ok (.aload_n 0, 1) := by decide +kernel
theorem d63_13 : decode bM63 13 = .ok (.getfield 133, 3) := by decide +kernel
theorem d63_16 : decode bM63 16 = .ok (.bipush 120, 2) := by decide +kernel
theorem d63_18 : decode bM63 18 = .ok (.if_icmp .lt 5, 3) := by decide +kernel
theorem d63_21 : decode bM63 21 = .ok (.iconst 0, 1) := by decide +kernel
theorem d63_22 : decode bM63 22 = .ok (.ireturn, 1) := by decide +kernel
theorem d63_23 : decode bM63 23 = .ok (.aload_n 0, 1) := by decide +kernel
theorem d63_24 : decode bM63 24 = .ok (.getfield 22, 3) := by decide +kernel
theorem d63_27 : decode bM63 27 = .ok (.aload_n 0, 1) := by decide +kernel
theorem d63_28 : decode bM63 28 = .ok (.getfield 133, 3) := by decide +kernel
theorem d63_31 : decode bM63 31 = .ok (.iload_n 1, 1) := by decide +kernel
theorem d63_32 : decode bM63 32 = .ok (.castore, 1) := by decide +kernel
theorem d63_33 : decode bM63 33 = .ok (.aload_n 0, 1) := by decide +kernel
theorem d63_34 : decode bM63 34 = .ok (.dup, 1) := by decide +kernel
theorem d63_35 : decode bM63 35 = .ok (.getfield 133, 3) := by decide +kernel
theorem d63_38 : decode bM63 38 = .ok (.iconst 1, 1) := by decide +kernel
theorem d63_39 : decode bM63 39 = .ok (.iadd, 1) := by decide +kernel
theorem d63_40 : decode bM63 40 = .ok (.putfield 133, 3) := by decide +kernel
theorem d63_43 : decode bM63 43 = .ok (.iconst 1, 1) := by decide +kernel
theorem d63_44 : decode bM63 44 = .ok (.ireturn, 1) := by decide +kernel
theorem d64_0 : decode bM64 0 = .ok (.aload_n 0, 1) := by decide +kernel
theorem d64_1 : decode bM64 1 = .ok (.getfield 137, 3) := by decide +kernel
theorem d64_4 : decode bM64 4 = .ok (.ifCond .ge 23, 3) := by decide +kernel
theorem d64_7 : decode bM64 7 = .ok (.aload_n 0, 1) := by decide +kernel
theorem d64_8 : decode bM64 8 = .ok (.iload_n 1, 1) := by decide +kernel
theorem d64_9 : decode bM64 9 = .ok (.aload_n 0, 1) := by decide +kernel
theorem d64_10 : decode bM64 10 = .ok (.getfield 133, 3) := by decide +kernel
theorem d64_13 : decode bM64 13 = .ok (.if_icmp .ge 7, 3) := by decide +kernel
theorem d64_20 : decode bM64 20 = .ok (.aload_n 0, 1) := by decide +kernel
theorem d64_21 : decode bM64 21 = .ok (.getfield 133, 3) := by decide +kernel
theorem d64_24 : decode bM64 24 = .ok (.putfield 137, 3) := by decide +kernel
theorem d64_27 : decode bM64 27 = .ok (.return_, 1) := by decide +kernel
theorem d65_0 : decode bM65 0 = .ok (.aload_n 0, 1) := by decide +kernel
theorem d65_1 : decode bM65 1 = .ok (.iconst 0, 1) := by decide +kernel
theorem d65_2 : decode bM65 2 = .ok (.putfield 197, 3) := by decide +kernel
theorem d65_5 : decode bM65 5 = .ok (.aload_n 0, 1) := by decide +kernel
theorem d65_6 : decode bM65 6 = .ok (.iconst (-1), 1) := by decide +kernel
theorem d65_7 : decode bM65 7 = .ok (.putfield 137, 3) := by decide +kernel
theorem d65_10 : decode bM65 10 = .ok (.aload_n 0, 1) := by decide +kernel
theorem d65_11 : decode bM65 11 = .ok (.iconst 0, 1) := by decide +kernel
theorem d65_12 : decode bM65 12 = .ok (.putfield 152, 3) := by decide +kernel
theorem d65_15 : decode bM65 15 = .ok (.aload_n 0, 1) := by decide +kernel
theorem d65_16 : decode bM65 16 = .ok (.iconst 0, 1) := by decide +kernel
theorem d65_17 : decode bM65 17 = .ok (.putfield 161, 3) := by decide +kernel
theorem d65_20 : decode bM65 20 = .ok (.aload_n 0, 1) := by decide +kernel
theorem d65_21 : decode bM65 21 = .ok (.iconst (-1), 1) := by decide +kernel
theorem d65_22 : decode bM65 22 = .ok (.putfield 155, 3) := by decide +kernel
theorem d65_25 : decode bM65 25 = .ok (.aload_n 0, 1) := by decide +kernel
theorem d65_26 : decode bM65 26 = .ok (.iload_n 2, 1) := by decide +kernel
theorem d65_27 : decode bM65 27 = .ok (.putfield 204, 3) := by decide +kernel
theorem d65_30 : decode bM65 30 = .ok (.aload_n 0, 1) := by decide +kernel
theorem d65_31 : decode bM65 31 = .ok (.iconst 0, 1) := by decide +kernel
theorem d65_32 : decode bM65 32 = .ok (.putfield 158, 3) := by decide +kernel
theorem d65_35 : decode bM65 35 = .ok (.aload_n 0, 1) := by decide +kernel
theorem d65_36 : decode bM65 36 = .ok (.getfield 137, 3) := by decide +kernel
theorem d65_39 : decode bM65 39 = .ok (.ifCond .ge 207, 3) := by decide +kernel
theorem d65_42 : decode bM65 42 = .ok (.aload_n 0, 1) := by decide +kernel
theorem d65_43 : decode bM65 43 = .ok (.getfield 197, 3) := by decide +kernel
theorem d65_46 : decode bM65 46 = .ok (.aload_n 0, 1) := by decide +kernel
theorem d65_47 : decode bM65 47 = .ok (.getfield 133, 3) := by decide +kernel
theorem d65_50 : decode bM65 50 = .ok (.if_icmp .ge 196, 3) := by decide +kernel
theorem d65_246 : decode bM65 246 = .ok (.aload_n 0, 1) := by decide +kernel
theorem d65_247 : decode bM65 247 = .ok (.getfield 158, 3) := by decide +kernel
theorem d65_250 : decode bM65 250 = .ok (.ifCond .gt 10, 3) := by decide +kernel
theorem d65_253 : decode bM65 253 = .ok (.aload_n 0, 1) := by decide +kernel
theorem d65_254 : decode bM65 254 = .ok (.getfield 152, 3) := by decide +kernel
theorem d65_257 : decode bM65 257 = .ok (.ifCond .ne 11, 3) := by decide +kernel
theorem d65_260 : decode bM65 260 = .ok (.aload_n 0, 1) := by decide +kernel
theorem d65_261 : decode bM65 261 = .ok (.aload_n 0, 1) := by decide +kernel
theorem d65_262 : decode bM65 262 = .ok (.getfield 133, 3) := by decide +kernel
theorem d65_265 : decode bM65 265 = .ok (.invokevirtual 144, 3) := by decide +kernel
theorem d65_268 : decode bM65 268 = .ok (.return_, 1) := by decide +kernel
theorem d66_0 : decode bM66 0 = .ok (.aload_n 0, 1) := by decide +kernel
theorem d66_1 : decode bM66 1 = .ok (.iconst 1, 1) := by decide +kernel
theorem d66_2 : decode bM66 2 = .ok (.iconst 0, 1) := by decide +kernel
theorem d66_3 : decode bM66 3 = .ok (.invokevirtual 242, 3) := by decide +kernel
theorem d66_6 : decode bM66 6 = .ok (.aload_n 0, 1) := by decide +kernel
theorem d66_7 : decode bM66 7 = .ok (.getfield 137, 3) := by decide +kernel
theorem d66_10 : decode bM66 10 = .ok (.ifCond .lt 10, 3) := by decide +kernel
theorem d66_13 : decode bM66 13 = .ok (.iconst (-1), 1) := by decide +kernel
theorem d66_14 : decode bM66 14 = .ok (.aload_n 0, 1) := by decide +kernel
theorem d66_15 : decode bM66 15 = .ok (.getfield 137, 3) := by decide +kernel
theorem d66_18 : decode bM66 18 = .ok (.isub, 1) := by decide +kernel
theorem d66_19 : decode bM66 19 = .ok (.ireturn, 1) := by decide +kernel
theorem d67_0 : decode bM67 0 = .ok (.aload_n 0, 1) := by decide +kernel
theorem d67_1 : decode bM67 1 = .ok (.invokevirtual 253, 3) := by decide +kernel
theorem d67_4 : decode bM67 4 = .ok (.istore_n 1, 1) := by decide +kernel
theorem d67_5 : decode bM67 5 = .ok (.aload_n 0, 1) := by decide +kernel
theorem d67_6 : decode bM67 6 = .ok (.iconst 0, 1) := by decide +kernel
theorem d67_7 : decode bM67 7 = .ok (.putfield 133, 3) := by decide +kernel
theorem d67_10 : decode bM67 10 = .ok (.iload_n 1, 1) := by decide +kernel
theorem d67_11 : decode bM67 11 = .ok (.ireturn, 1) := by decide +kernel
theorem d68_0 : decode bM68 0 = .ok (.aload_n 0, 1) := by decide +kernel
theorem d68_1 : decode bM68 1 = .ok (.iload_n 1, 1) := by decide +kernel
theorem d68_2 : decode bM68 2 = .ok (.invokevirtual 275, 3) := by decide +kernel
theorem d68_5 : decode bM68 5 = .ok (.istore_n 3, 1) := by decide +kernel
theorem d68_6 : decode bM68 6 = .ok (.iload_n 3, 1) := by decide +kernel
theorem d68_7 : decode bM68 7 = .ok (.ifCond .ge 9, 3) := by decide +kernel
theorem d68_10 : decode bM68 10 = .ok (.sipush (-1000), 3) := by decide +kernel
theorem d68_13 : decode bM68 13 = .ok (.goto 9, 3) := by decide +kernel
theorem d68_22 : decode bM68 22 = .ok (.istore 4, 2) := by decide +kernel
theorem d68_24 : decode bM68 24 = .ok (.aload_n 0, 1) := by decide +kernel
theorem d68_25 : decode bM68 25 = .ok (.iconst 0, 1) := by decide +kernel
theorem d68_26 : decode bM68 26 = .ok (.putfield 133, 3) := by decide +kernel
theorem d68_29 : decode bM68 29 = .ok (.iload 4, 2) := by decide +kernel
theorem d68_31 : decode bM68 31 = .ok (.ireturn, 1) := by decide +kernel
theorem d69_0 : decode bM69 0 = .ok (.aload_n 0, 1) := by decide +kernel
theorem d69_1 : decode bM69 1 = .ok (.iload_n 1, 1) := by decide +kernel
theorem d69_2 : decode bM69 2 = .ok (.invokevirtual 275, 3) := by decide +kernel
theorem d69_5 : decode bM69 5 = .ok (.istore_n 2, 1) := by decide +kernel
theorem d69_6 : decode bM69 6 = .ok (.iload_n 2, 1) := by decide +kernel
theorem d69_7 : decode bM69 7 = .ok (.ifCond .lt 12, 3) := by decide +kernel
theorem d69_19 : decode bM69 19 = .ok (.iload_n 2, 1) := by decide +kernel
theorem d69_20 : decode bM69 20 = .ok (.ifCond .ge 9, 3) := by decide +kernel
theorem d69_23 : decode bM69 23 = .ok (.sipush (-1000), 3) := by decide +kernel
theorem d69_26 : decode bM69 26 = .ok (.goto 6, 3) := by decide +kernel
theorem d69_32 : decode bM69 32 = .ok (.ireturn, 1) := by decide +kernel
theorem d70_0 : decode bM70 0 = .ok (.aload_n 0, 1) := by decide +kernel
theorem d70_1 : decode bM70 1 = .ok (.iload_n 1, 1) := by decide +kernel
theorem d70_2 : decode bM70 2 = .ok (.invokevirtual 275, 3) := by decide +kernel
theorem d70_5 : decode bM70 5 = .ok (.istore_n 2, 1) := by decide +kernel
theorem d70_6 : decode bM70 6 = .ok (.iload_n 2, 1) := by decide +kernel
theorem d70_7 : decode bM70 7 = .ok (.ifCond .lt 23, 3) := by decide +kernel
theorem d70_30 : decode bM70 30 = .ok (.iconst 0, 1) := by decide +kernel
theorem d70_31 : decode bM70 31 = .ok (.istore_n 3, 1) := by decide +kernel
theorem d70_32 : decode bM70 32 = .ok (.iload_n 3, 1) := by decide +kernel
theorem d70_33 : decode bM70 33 = .ok (.ifCond .eq 31, 3) := by decide +kernel
theorem d70_64 : decode bM70 64 = .ok (.iconst 0, 1) := by decide +kernel
theorem d70_65 : decode bM70 65 = .ok (.istore 4, 2) := by decide +kernel
theorem d70_67 : decode bM70 67 = .ok (.iload 4, 2) := by decide +kernel
theorem d70_69 : decode bM70 69 = .ok (.aload_n 0, 1) := by decide +kernel
theorem d70_70 : decode bM70 70 = .ok (.getfield 133, 3) := by decide +kernel
theorem d70_73 : decode bM70 73 = .ok (.if_icmp .ge 64, 3) := by decide +kernel
theorem d70_137 : decode bM70 137 = .ok (.iconst 0, 1) := by decide +kernel
theorem d70_138 : decode bM70 138 = .ok (.istore 4, 2) := by decide +kernel
theorem d70_140 : decode bM70 140 = .ok (.iload 4, 2) := by decide +kernel
theorem d70_142 : decode bM70 142 = .ok (.aload_n 0, 1) := by decide +kernel
theorem d70_143 : decode bM70 143 = .ok (.getfield 133, 3) := by decide +kernel
theorem d70_146 : decode bM70 146 = .ok (.if_icmp .ge 29, 3) := by decide +kernel
theorem d70_175 : decode bM70 175 = .ok (.iload_n 3, 1) := by decide +kernel
theorem d70_176 : decode bM70 176 = .ok (.ifCond .eq 23, 3) := by decide +kernel
theorem d70_199 : decode bM70 199 = .ok (.aload_n 0, 1) := by decide +kernel
theorem d70_200 : decode bM70 200 = .ok (.iconst 0, 1) := by decide +kernel
theorem d70_201 : decode bM70 201 = .ok (.putfield 133, 3) := by decide +kernel
theorem d70_204 : decode bM70 204 = .ok (.iload_n 3, 1) := by decide +kernel
theorem d70_205 : decode bM70 205 = .ok (.ireturn, 1) := by decide +kernel
theorem d71_0 : decode bM71 0 = .ok (.aload_n 0, 1) := by decide +kernel
theorem d71_1 : decode bM71 1 = .ok (.iload_n 1, 1) := by decide +kernel
theorem d71_2 : decode bM71 2 = .ok (.invokevirtual 275, 3) := by decide +kernel
theorem d71_5 : decode bM71 5 = .ok (.istore_n 2, 1) := by decide +kernel
theorem d71_6 : decode bM71 6 = .ok (.iload_n 2, 1) := by decide +kernel
theorem d71_7 : decode bM71 7 = .ok (.ifCond .ge 9, 3) := by decide +kernel
theorem d71_10 : decode bM71 10 = .ok (.sipush (-1000), 3) := by decide +kernel
theorem d71_13 : decode bM71 13 = .ok (.goto 8, 3) := by decide +kernel
theorem d71_21 : decode bM71 21 = .ok (.istore_n 3, 1) := by decide +kernel
theorem d71_22 : decode bM71 22 = .ok (.aload_n 0, 1) := by decide +kernel
theorem d71_23 : decode bM71 23 = .ok (.iconst 0, 1) := by decide +kernel
theorem d71_24 : decode bM71 24 = .ok (.putfield 133, 3) := by decide +kernel
theorem d71_27 : decode bM71 27 = .ok (.iload_n 3, 1) := by decide +kernel
theorem d71_28 : decode bM71 28 = .ok (.ireturn, 1) := by decide +kernel
theorem d72_0 : decode bM72 0 = .ok (.aload_n 0, 1) := by decide +kernel
theorem d72_1 : decode bM72 1 = .ok (.iload_n 1, 1) := by decide +kernel
theorem d72_2 : decode bM72 2 = .ok (.invokevirtual 275, 3) := by decide +kernel
theorem d72_5 : decode bM72 5 = .ok (.istore_n 2, 1) := by decide +kernel
theorem d72_6 : decode bM72 6 = .ok (.iload_n 2, 1) := by decide +kernel
theorem d72_7 : decode bM72 7 = .ok (.ifCond .ge 9, 3) := by decide +kernel
theorem d72_10 : decode bM72 10 = .ok (.sipush (-1000), 3) := by decide +kernel
theorem d72_13 : decode bM72 13 = .ok (.goto 9, 3) := by decide +kernel
theorem d72_22 : decode bM72 22 = .ok (.ireturn, 1) := by decide +kernel
theorem d73_0 : decode bM73 0 = .ok (.aload_n 0, 1) := by decide +kernel
theorem d73_1 : decode bM73 1 = .ok (.iload_n 1, 1) := by decide +kernel
theorem d73_2 : decode bM73 2 = .ok (.invokevirtual 275, 3) := by decide +kernel
theorem d73_5 : decode bM73 5 = .ok (.istore_n 3, 1) := by decide +kernel
theorem d73_6 : decode bM73 6 = .ok (.iload_n 3, 1) := by decide +kernel
theorem d73_7 : decode bM73 7 = .ok (.ifCond .ge 7, 3) := by decide +kernel
theorem d73_10 : decode bM73 10 = .ok (.sipush (-1000), 3) := by decide +kernel
theorem d73_13 : decode bM73 13 = .ok (.ireturn, 1) := by decide +kernel
theorem d74_0 : decode bM74 0 = .ok (.aload_n 0, 1) := by decide +kernel
theorem d74_1 : decode bM74 1 = .ok (.iload_n 1, 1) := by decide +kernel
theorem d74_2 : decode bM74 2 = .ok (.invokevirtual 275, 3) := by decide +kernel
theorem d74_5 : decode bM74 5 = .ok (.istore_n 3, 1) := by decide +kernel
theorem d74_6 : decode bM74 6 = .ok (.iload_n 3, 1) := by decide +kernel
theorem d74_7 : decode bM74 7 = .ok (.ifCond .lt 17, 3) := by decide +kernel
theorem d74_24 : decode bM74 24 = .ok (.iconst 0, 1) := by decide +kernel
theorem d74_25 : decode bM74 25 = .ok (.goto 12, 3) := by decide +kernel
theorem d74_37 : decode bM74 37 = .ok (.ireturn, 1) := by decide +kernel
theorem d75_0 : decode bM75 0 = .ok (.aload_n 0, 1) := by decide +kernel
theorem d75_1 : decode bM75 1 = .ok (.iload_n 1, 1) := by decide +kernel
theorem d75_2 : decode bM75 2 = .ok (.invokevirtual 275, 3) := by decide +kernel
theorem d75_5 : decode bM75 5 = .ok (.istore_n 3, 1) := by decide +kernel
theorem d75_6 : decode bM75 6 = .ok (.iload_n 3, 1) := by decide +kernel
theorem d75_7 : decode bM75 7 = .ok (.ifCond .lt 17, 3) := by decide +kernel
theorem d75_24 : decode bM75 24 = .ok (.iconst 0, 1) := by decide +kernel
theorem d75_25 : decode bM75 25 = .ok (.goto 12, 3) := by decide +kernel
theorem d75_37 : decode bM75 37 = .ok (.ireturn, 1) := by decide +kernel
theorem d76_0 : decode bM76 0 = .ok (.iload_n 1, 1) := by decide +kernel
theorem d76_1 : decode bM76 1 = .ok (.ifCond .lt 20, 3) := by decide +kernel
theorem d76_4 : decode bM76 4 = .ok (.iload_n 1, 1) := by decide +kernel
theorem d76_5 : decode bM76 5 = .ok (.aload_n 0, 1) := by decide +kernel
theorem d76_6 : decode bM76 6 = .ok (.getfield 379, 3) := by decide +kernel
theorem d76_9 : decode bM76 9 = .ok (.if_icmp .ge 12, 3) := by decide +kernel
theorem d76_21 : decode bM76 21 = .ok (.sipush (-1000), 3) := by decide +kernel
theorem d76_24 : decode bM76 24 = .ok (.ireturn, 1) := by decide +kernel
theorem d77_0 : decode bM77 0 = .ok (.aload_n 0, 1) := by decide +kernel
theorem d77_1 : decode bM77 1 = .ok (.invokevirtual 115, 3) := by decide +kernel
theorem d77_4 : decode bM77 4 = .ok (.ifCond .ne 9, 3) := by decide +kernel
theorem d77_7 : decode bM77 7 = .ok (.sipush (-1000), 3) := by decide +kernel
theorem d77_10 : decode bM77 10 = .ok (.goto 15, 3) := by decide +kernel
theorem d77_25 : decode bM77 25 = .ok (.ireturn, 1) := by decide +kernel
theorem d78_0 : decode bM78 0 = .ok (.aload_n 0, 1) := by decide +kernel
theorem d78_1 : decode bM78 1 = .ok (.invokevirtual 115, 3) := by decide +kernel
theorem d78_4 : decode bM78 4 = .ok (.ireturn, 1) := by decide +kernel
theorem d79_0 : decode bM79 0 = .ok (.aload_n 0, 1) := by decide +kernel
theorem d79_1 : decode bM79 1 = .ok (.iload_n 1, 1) := by decide +kernel
theorem d79_2 : decode bM79 2 = .ok (.putfield 391, 3) := by decide +kernel
theorem d79_5 : decode bM79 5 = .ok (.aload_n 0, 1) := by decide +kernel
theorem d79_6 : decode bM79 6 = .ok (.iconst 0, 1) := by decide +kernel
theorem d79_7 : decode bM79 7 = .ok (.putfield 388, 3) := by decide +kernel
theorem d79_10 : decode bM79 10 = .ok (.aload_n 0, 1) := by decide +kernel
theorem d79_11 : decode bM79 11 = .ok (.iconst 0, 1) := by decide +kernel
theorem d79_12 : decode bM79 12 = .ok (.putfield 394, 3) := by decide +kernel
theorem d79_15 : decode bM79 15 = .ok (.iconst 0, 1) := by decide +kernel
theorem d79_16 : decode bM79 16 = .ok (.istore_n 2, 1) := by decide +kernel
theorem d79_17 : decode bM79 17 = .ok (.iload_n 2, 1) := by decide +kernel
theorem d79_18 : decode bM79 18 = .ok (.aload_n 0, 1) := by decide +kernel
theorem d79_19 : decode bM79 19 = .ok (.invokevirtual 115, 3) := by decide +kernel
theorem d79_22 : decode bM79 22 = .ok (.if_icmp .ge 197, 3) := by decide +kernel
theorem d79_219 : decode bM79 219 = .ok (.return_, 1) := by decide +kernel
theorem d80_0 : decode bM80 0 = .ok (.aload_n 0, 1) := by decide +kernel
theorem d80_1 : decode bM80 1 = .ok (.iconst (-1), 1) := by decide +kernel
theorem d80_2 : decode bM80 2 = .ok (.invokevirtual 417, 3) := by decide +kernel
theorem d80_5 : decode bM80 5 = .ok (.aload_n 0, 1) := by decide +kernel
theorem d80_6 : decode bM80 6 = .ok (.getfield 388, 3) := by decide +kernel
theorem d80_9 : decode bM80 9 = .ok (.ireturn, 1) := by decide +kernel
theorem d81_0 : decode bM81 0 = .ok (.aload_n 0, 1) := by decide +kernel
theorem d81_1 : decode bM81 1 = .ok (.iload_n 1, 1) := by decide +kernel
theorem d81_2 : decode bM81 2 = .ok (.invokevirtual 417, 3) := by decide +kernel
theorem d81_5 : decode bM81 5 = .ok (.aload_n 0, 1) := by decide +kernel
theorem d81_6 : decode bM81 6 = .ok (.getfield 394, 3) := by decide +kernel
theorem d81_9 : decode bM81 9 = .ok (.ireturn, 1) := by decide +kernel
theorem d82_0 : decode bM82 0 = .ok (.iconst 0, 1) := by decide +kernel
theorem d82_1 : decode bM82 1 = .ok (.istore_n 1, 1) := by decide +kernel
theorem d82_2 : decode bM82 2 = .ok (.iload_n 1, 1) := by decide +kernel
theorem d82_3 : decode bM82 3 = .ok (.sipush 5161, 3) := by decide +kernel
theorem d82_6 : decode bM82 6 = .ok (.if_icmp .ge 21, 3) := by decide +kernel
theorem d82_9 : decode bM82 9 = .ok (.aload_n 0, 1) := by decide +kernel
theorem d82_10 : decode bM82 10 = .ok (.getfield 13, 3) := by decide +kernel
theorem d82_13 : decode bM82 13 = .ok (.iload_n 1, 1) := by decide +kernel
theorem d82_14 : decode bM82 14 = .ok (.aload_n 0, 1) := by decide +kernel
theorem d82_15 : decode bM82 15 = .ok (.getfield 7, 3) := by decide +kernel
theorem d82_18 : decode bM82 18 = .ok (.iload_n 1, 1) := by decide +kernel
theorem d82_19 : decode bM82 19 = .ok (.iaload, 1) := by decide +kernel
theorem d82_20 : decode bM82 20 = .ok (.iastore, 1) := by decide +kernel
theorem d82_21 : decode bM82 21 = .ok (.iinc 1 1, 3) := by decide +kernel
theorem d82_24 : decode bM82 24 = .ok (.goto (-22), 3) := by decide +kernel
theorem d82_27 : decode bM82 27 = .ok (.aload_n 0, 1) := by decide +kernel
theorem d82_28 : decode bM82 28 = .ok (.iconst 0, 1) := by decide +kernel
theorem d82_29 : decode bM82 29 = .ok (.putfield 239, 3) := by decide +kernel
theorem d82_32 : decode bM82 32 = .ok (.return_, 1) := by decide +kernel
theorem d83_0 : decode bM83 0 = .ok (.aload_n 0, 1) := by decide +kernel
theorem d83_1 : decode bM83 1 = .ok (.getfield 239, 3) := by decide +kernel
theorem d83_4 : decode bM83 4 = .ok (.istore_n 1, 1) := by decide +kernel
theorem d83_5 : decode bM83 5 = .ok (.aload_n 0, 1) := by decide +kernel
theorem d83_6 : decode bM83 6 = .ok (.invokevirtual 250, 3) := by decide +kernel
theorem d83_9 : decode bM83 9 = .ok (.iload_n 1, 1) := by decide +kernel
theorem d83_10 : decode bM83 10 = .ok (.ireturn, 1) := by decide +kernel
theorem d84_0 : decode bM84 0 = .ok (.aload_n 0, 1) := by decide +kernel
theorem d84_1 : decode bM84 1 = .ok (.getfield 239, 3) := by decide +kernel
theorem d84_4 : decode bM84 4 = .ok (.istore_n 1, 1) := by decide +kernel
theorem d84_5 : decode bM84 5 = .ok (.iconst 0, 1) := by decide +kernel
theorem d84_6 : decode bM84 6 = .ok (.istore_n 2, 1) := by decide +kernel
theorem d84_7 : decode bM84 7 = .ok (.iload_n 2, 1) := by decide +kernel
theorem d84_8 : decode bM84 8 = .ok (.sipush 5161, 3) := by decide +kernel
theorem d84_11 : decode bM84 11 = .ok (.if_icmp .ge 21, 3) := by decide +kernel
theorem d84_14 : decode bM84 14 = .ok (.aload_n 0, 1) := by decide +kernel
theorem d84_15 : decode bM84 15 = .ok (.getfield 7, 3) := by decide +kernel
theorem d84_18 : decode bM84 18 = .ok (.iload_n 2, 1) := by decide +kernel
theorem d84_19 : decode bM84 19 = .ok (.aload_n 0, 1) := by decide +kernel
theorem d84_20 : decode bM84 20 = .ok (.getfield 13, 3) := by decide +kernel
theorem d84_23 : decode bM84 23 = .ok (.iload_n 2, 1) := by decide +kernel
theorem d84_24 : decode bM84 24 = .ok (.iaload, 1) := by decide +kernel
theorem d84_25 : decode bM84 25 = .ok (.iastore, 1) := by decide +kernel
theorem d84_26 : decode bM84 26 = .ok (.iinc 2 1, 3) := by decide +kernel
theorem d84_29 : decode bM84 29 = .ok (.goto (-22), 3) := by decide +kernel
theorem d84_32 : decode bM84 32 = .ok (.aload_n 0, 1) := by decide +kernel
theorem d84_33 : decode bM84 33 = .ok (.iconst 0, 1) := by decide +kernel
theorem d84_34 : decode bM84 34 = .ok (.putfield 239, 3) := by decide +kernel
theorem d84_37 : decode bM84 37 = .ok (.aload_n 0, 1) := by decide +kernel
theorem d84_38 : decode bM84 38 = .ok (.iconst 0, 1) := by decide +kernel
theorem d84_39 : decode bM84 39 = .ok (.putfield 133, 3) := by decide +kernel
theorem d84_42 : decode bM84 42 = .ok (.iload_n 1, 1) := by decide +kernel
theorem d84_43 : decode bM84 43 = .ok (.ireturn, 1) := by decide +kernel
theorem d85_0 : decode code 0 = .ok (.new 7, 3) := by decide +kernel
theorem d85_3 : decode code 3 = .ok (.dup, 1) := by decide +kernel
theorem d85_4 : decode code 4 = .ok (.invokespecial 9, 3) := by decide +kernel
theorem d85_7 : decode code 7 = .ok (.astore_n 1, 1) := by decide +kernel
theorem d85_8 : decode code 8 = .ok (.new 10, 3) := by decide +kernel
theorem d85_11 : decode code 11 = .ok (.dup, 1) := by decide +kernel
theorem d85_12 : decode code 12 = .ok (.invokespecial 12, 3) := by decide +kernel
theorem d85_15 : decode code 15 = .ok (.astore_n 2, 1) := by decide +kernel
theorem d85_16 : decode code 16 = .ok (.iconst 0, 1) := by decide +kernel
theorem d85_17 : decode code 17 = .ok (.istore_n 3, 1) := by decide +kernel
theorem d85_18 : decode code 18 = .ok (.iload_n 3, 1) := by decide +kernel
theorem d85_19 : decode code 19 = .ok (.aload_n 0, 1) := by decide +kernel
theorem d85_20 : decode code 20 = .ok (.arraylength, 1) := by decide +kernel
theorem d85_21 : decode code 21 = .ok (.iconst 3, 1) := by decide +kernel
theorem d85_22 : decode code 22 = .ok (.isub, 1) := by decide +kernel
theorem d85_23 : decode code 23 = .ok (.if_icmp .gt 472, 3) := by decide +kernel
theorem d85_26 : decode code 26 = .ok (.aload_n 0, 1) := by decide +kernel
theorem d85_27 : decode code 27 = .ok (.iload_n 3, 1) := by decide +kernel
theorem d85_28 : decode code 28 = .ok (.iaload, 1) := by decide +kernel
theorem d85_29 : decode code 29 = .ok (.bipush 31, 2) := by decide +kernel
theorem d85_31 : decode code 31 = .ok (.iand, 1) := by decide +kernel
theorem d85_32 : decode code 32 = .ok (.tableswitch 457 0 16 #[84, 109, 122, 155, 178, 201, 224, 247, 260, 273, 296, 329, 362, 395, 408, 421, 434], 84) := by decide +kernel
theorem d85_116 : decode code 116 = .ok (.aload_n 1, 1) := by decide +kernel
theorem d85_117 : decode code 117 = .ok (.aload_n 0, 1) := by decide +kernel
theorem d85_118 : decode code 118 = .ok (.iload_n 3, 1) := by decide +kernel
theorem d85_119 : decode code 119 = .ok (.iconst 1, 1) := by decide +kernel
theorem d85_120 : decode code 120 = .ok (.iadd, 1) := by decide +kernel
theorem d85_121 : decode code 121 = .ok (.iaload, 1) := by decide +kernel
theorem d85_122 : decode code 122 = .ok (.i2c, 1) := by decide +kernel
theorem d85_123 : decode code 123 = .ok (.invokevirtual 13, 3) := by decide +kernel
theorem d85_126 : decode code 126 = .ok (.aload_n 2, 1) := by decide +kernel
theorem d85_127 : decode code 127 = .ok (.aload_n 0, 1) := by decide +kernel
theorem d85_128 : decode code 128 = .ok (.iload_n 3, 1) := by decide +kernel
theorem d85_129 : decode code 129 = .ok (.iconst 1, 1) := by decide +kernel
theorem d85_130 : decode code 130 = .ok (.iadd, 1) := by decide +kernel
theorem d85_131 : decode code 131 = .ok (.iaload, 1) := by decide +kernel
theorem d85_132 : decode code 132 = .ok (.i2c, 1) := by decide +kernel
theorem d85_133 : decode code 133 = .ok (.invokevirtual 17, 3) := by decide +kernel
theorem d85_136 : decode code 136 = .ok (.if_icmp .eq 353, 3) := by decide +kernel
theorem d85_141 : decode code 141 = .ok (.aload_n 1, 1) := by decide +kernel
theorem d85_142 : decode code 142 = .ok (.invokevirtual 18, 3) := by decide +kernel
theorem d85_145 : decode code 145 = .ok (.aload_n 2, 1) := by decide +kernel
theorem d85_146 : decode code 146 = .ok (.invokevirtual 22, 3) := by decide +kernel
theorem d85_149 : decode code 149 = .ok (.if_icmp .eq 340, 3) := by decide +kernel
theorem d85_154 : decode code 154 = .ok (.aload_n 1, 1) := by decide +kernel
theorem d85_155 : decode code 155 = .ok (.aload_n 0, 1) := by decide +kernel
theorem d85_156 : decode code 156 = .ok (.iload_n 3, 1) := by decide +kernel
theorem d85_157 : decode code 157 = .ok (.iconst 1, 1) := by decide +kernel
theorem d85_158 : decode code 158 = .ok (.iadd, 1) := by decide +kernel
theorem d85_159 : decode code 159 = .ok (.iaload, 1) := by decide +kernel
theorem d85_160 : decode code 160 = .ok (.aload_n 0, 1) := by decide +kernel
theorem d85_161 : decode code 161 = .ok (.iload_n 3, 1) := by decide +kernel
theorem d85_162 : decode code 162 = .ok (.iconst 2, 1) := by decide +kernel
theorem d85_163 : decode code 163 = .ok (.iadd, 1) := by decide +kernel
theorem d85_164 : decode code 164 = .ok (.iaload, 1) := by decide +kernel
theorem d85_165 : decode code 165 = .ok (.invokevirtual 23, 3) := by decide +kernel
theorem d85_168 : decode code 168 = .ok (.aload_n 2, 1) := by decide +kernel
theorem d85_169 : decode code 169 = .ok (.aload_n 0, 1) := by decide +kernel
theorem d85_170 : decode code 170 = .ok (.iload_n 3, 1) := by decide +kernel
theorem d85_171 : decode code 171 = .ok (.iconst 1, 1) := by decide +kernel
theorem d85_172 : decode code 172 = .ok (.iadd, 1) := by decide +kernel
theorem d85_173 : decode code 173 = .ok (.iaload, 1) := by decide +kernel
theorem d85_174 : decode code 174 = .ok (.aload_n 0, 1) := by decide +kernel
theorem d85_175 : decode code 175 = .ok (.iload_n 3, 1) := by decide +kernel
theorem d85_176 : decode code 176 = .ok (.iconst 2, 1) := by decide +kernel
theorem d85_177 : decode code 177 = .ok (.iadd, 1) := by decide +kernel
theorem d85_178 : decode code 178 = .ok (.iaload, 1) := by decide +kernel
theorem d85_179 : decode code 179 = .ok (.invokevirtual 27, 3) := by decide +kernel
theorem d85_182 : decode code 182 = .ok (.if_icmp .eq 307, 3) := by decide +kernel
theorem d85_187 : decode code 187 = .ok (.aload_n 1, 1) := by decide +kernel
theorem d85_188 : decode code 188 = .ok (.aload_n 0, 1) := by decide +kernel
theorem d85_189 : decode code 189 = .ok (.iload_n 3, 1) := by decide +kernel
theorem d85_190 : decode code 190 = .ok (.iconst 1, 1) := by decide +kernel
theorem d85_191 : decode code 191 = .ok (.iadd, 1) := by decide +kernel
theorem d85_192 : decode code 192 = .ok (.iaload, 1) := by decide +kernel
theorem d85_193 : decode code 193 = .ok (.invokevirtual 28, 3) := by decide +kernel
theorem d85_196 : decode code 196 = .ok (.aload_n 2, 1) := by decide +kernel
theorem d85_197 : decode code 197 = .ok (.aload_n 0, 1) := by decide +kernel
theorem d85_198 : decode code 198 = .ok (.iload_n 3, 1) := by decide +kernel
theorem d85_199 : decode code 199 = .ok (.iconst 1, 1) := by decide +kernel
theorem d85_200 : decode code 200 = .ok (.iadd, 1) := by decide +kernel
theorem d85_201 : decode code 201 = .ok (.iaload, 1) := by decide +kernel
theorem d85_202 : decode code 202 = .ok (.invokevirtual 32, 3) := by decide +kernel
theorem d85_205 : decode code 205 = .ok (.if_icmp .eq 284, 3) := by decide +kernel
theorem d85_210 : decode code 210 = .ok (.aload_n 1, 1) := by decide +kernel
theorem d85_211 : decode code 211 = .ok (.aload_n 0, 1) := by decide +kernel
theorem d85_212 : decode code 212 = .ok (.iload_n 3, 1) := by decide +kernel
theorem d85_213 : decode code 213 = .ok (.iconst 1, 1) := by decide +kernel
theorem d85_214 : decode code 214 = .ok (.iadd, 1) := by decide +kernel
theorem d85_215 : decode code 215 = .ok (.iaload, 1) := by decide +kernel
theorem d85_216 : decode code 216 = .ok (.invokevirtual 33, 3) := by decide +kernel
theorem d85_219 : decode code 219 = .ok (.aload_n 2, 1) := by decide +kernel
theorem d85_220 : decode code 220 = .ok (.aload_n 0, 1) := by decide +kernel
theorem d85_221 : decode code 221 = .ok (.iload_n 3, 1) := by decide +kernel
theorem d85_222 : decode code 222 = .ok (.iconst 1, 1) := by decide +kernel
theorem d85_223 : decode code 223 = .ok (.iadd, 1) := by decide +kernel
theorem d85_224 : decode code 224 = .ok (.iaload, 1) := by decide +kernel
theorem d85_225 : decode code 225 = .ok (.invokevirtual 37, 3) := by decide +kernel
theorem d85_228 : decode code 228 = .ok (.if_icmp .eq 261, 3) := by decide +kernel
theorem d85_233 : decode code 233 = .ok (.aload_n 1, 1) := by decide +kernel
theorem d85_234 : decode code 234 = .ok (.aload_n 0, 1) := by decide +kernel
theorem d85_235 : decode code 235 = .ok (.iload_n 3, 1) := by decide +kernel
theorem d85_236 : decode code 236 = .ok (.iconst 1, 1) := by decide +kernel
theorem d85_237 : decode code 237 = .ok (.iadd, 1) := by decide +kernel
theorem d85_238 : decode code 238 = .ok (.iaload, 1) := by decide +kernel
theorem d85_239 : decode code 239 = .ok (.invokevirtual 38, 3) := by decide +kernel
theorem d85_242 : decode code 242 = .ok (.aload_n 2, 1) := by decide +kernel
theorem d85_243 : decode code 243 = .ok (.aload_n 0, 1) := by decide +kernel
theorem d85_244 : decode code 244 = .ok (.iload_n 3, 1) := by decide +kernel
theorem d85_245 : decode code 245 = .ok (.iconst 1, 1) := by decide +kernel
theorem d85_246 : decode code 246 = .ok (.iadd, 1) := by decide +kernel
theorem d85_247 : decode code 247 = .ok (.iaload, 1) := by decide +kernel
theorem d85_248 : decode code 248 = .ok (.invokevirtual 41, 3) := by decide +kernel
theorem d85_251 : decode code 251 = .ok (.if_icmp .eq 238, 3) := by decide +kernel
theorem d85_256 : decode code 256 = .ok (.aload_n 1, 1) := by decide +kernel
theorem d85_257 : decode code 257 = .ok (.aload_n 0, 1) := by decide +kernel
theorem d85_258 : decode code 258 = .ok (.iload_n 3, 1) := by decide +kernel
theorem d85_259 : decode code 259 = .ok (.iconst 1, 1) := by decide +kernel
theorem d85_260 : decode code 260 = .ok (.iadd, 1) := by decide +kernel
theorem d85_261 : decode code 261 = .ok (.iaload, 1) := by decide +kernel
theorem d85_262 : decode code 262 = .ok (.invokevirtual 42, 3) := by decide +kernel
theorem d85_265 : decode code 265 = .ok (.aload_n 2, 1) := by decide +kernel
theorem d85_266 : decode code 266 = .ok (.aload_n 0, 1) := by decide +kernel
theorem d85_267 : decode code 267 = .ok (.iload_n 3, 1) := by decide +kernel
theorem d85_268 : decode code 268 = .ok (.iconst 1, 1) := by decide +kernel
theorem d85_269 : decode code 269 = .ok (.iadd, 1) := by decide +kernel
theorem d85_270 : decode code 270 = .ok (.iaload, 1) := by decide +kernel
theorem d85_271 : decode code 271 = .ok (.invokevirtual 45, 3) := by decide +kernel
theorem d85_274 : decode code 274 = .ok (.if_icmp .eq 215, 3) := by decide +kernel
theorem d85_279 : decode code 279 = .ok (.aload_n 1, 1) := by decide +kernel
theorem d85_280 : decode code 280 = .ok (.invokevirtual 46, 3) := by decide +kernel
theorem d85_283 : decode code 283 = .ok (.aload_n 2, 1) := by decide +kernel
theorem d85_284 : decode code 284 = .ok (.invokevirtual 49, 3) := by decide +kernel
theorem d85_287 : decode code 287 = .ok (.if_icmp .eq 202, 3) := by decide +kernel
theorem d85_292 : decode code 292 = .ok (.aload_n 1, 1) := by decide +kernel
theorem d85_293 : decode code 293 = .ok (.invokevirtual 50, 3) := by decide +kernel
theorem d85_296 : decode code 296 = .ok (.aload_n 2, 1) := by decide +kernel
theorem d85_297 : decode code 297 = .ok (.invokevirtual 53, 3) := by decide +kernel
theorem d85_300 : decode code 300 = .ok (.if_icmp .eq 189, 3) := by decide +kernel
theorem d85_305 : decode code 305 = .ok (.aload_n 1, 1) := by decide +kernel
theorem d85_306 : decode code 306 = .ok (.aload_n 0, 1) := by decide +kernel
theorem d85_307 : decode code 307 = .ok (.iload_n 3, 1) := by decide +kernel
theorem d85_308 : decode code 308 = .ok (.iconst 1, 1) := by decide +kernel
theorem d85_309 : decode code 309 = .ok (.iadd, 1) := by decide +kernel
theorem d85_310 : decode code 310 = .ok (.iaload, 1) := by decide +kernel
theorem d85_311 : decode code 311 = .ok (.invokevirtual 54, 3) := by decide +kernel
theorem d85_314 : decode code 314 = .ok (.aload_n 2, 1) := by decide +kernel
theorem d85_315 : decode code 315 = .ok (.aload_n 0, 1) := by decide +kernel
theorem d85_316 : decode code 316 = .ok (.iload_n 3, 1) := by decide +kernel
theorem d85_317 : decode code 317 = .ok (.iconst 1, 1) := by decide +kernel
theorem d85_318 : decode code 318 = .ok (.iadd, 1) := by decide +kernel
theorem d85_319 : decode code 319 = .ok (.iaload, 1) := by decide +kernel
theorem d85_320 : decode code 320 = .ok (.invokevirtual 57, 3) := by decide +kernel
theorem d85_323 : decode code 323 = .ok (.if_icmp .eq 166, 3) := by decide +kernel
theorem d85_328 : decode code 328 = .ok (.aload_n 1, 1) := by decide +kernel
theorem d85_329 : decode code 329 = .ok (.aload_n 0, 1) := by decide +kernel
theorem d85_330 : decode code 330 = .ok (.iload_n 3, 1) := by decide +kernel
theorem d85_331 : decode code 331 = .ok (.iconst 1, 1) := by decide +kernel
theorem d85_332 : decode code 332 = .ok (.iadd, 1) := by decide +kernel
theorem d85_333 : decode code 333 = .ok (.iaload, 1) := by decide +kernel
theorem d85_334 : decode code 334 = .ok (.aload_n 0, 1) := by decide +kernel
theorem d85_335 : decode code 335 = .ok (.iload_n 3, 1) := by decide +kernel
theorem d85_336 : decode code 336 = .ok (.iconst 2, 1) := by decide +kernel
theorem d85_337 : decode code 337 = .ok (.iadd, 1) := by decide +kernel
theorem d85_338 : decode code 338 = .ok (.iaload, 1) := by decide +kernel
theorem d85_339 : decode code 339 = .ok (.invokevirtual 58, 3) := by decide +kernel
theorem d85_342 : decode code 342 = .ok (.aload_n 2, 1) := by decide +kernel
theorem d85_343 : decode code 343 = .ok (.aload_n 0, 1) := by decide +kernel
theorem d85_344 : decode code 344 = .ok (.iload_n 3, 1) := by decide +kernel
theorem d85_345 : decode code 345 = .ok (.iconst 1, 1) := by decide +kernel
theorem d85_346 : decode code 346 = .ok (.iadd, 1) := by decide +kernel
theorem d85_347 : decode code 347 = .ok (.iaload, 1) := by decide +kernel
theorem d85_348 : decode code 348 = .ok (.aload_n 0, 1) := by decide +kernel
theorem d85_349 : decode code 349 = .ok (.iload_n 3, 1) := by decide +kernel
theorem d85_350 : decode code 350 = .ok (.iconst 2, 1) := by decide +kernel
theorem d85_351 : decode code 351 = .ok (.iadd, 1) := by decide +kernel
theorem d85_352 : decode code 352 = .ok (.iaload, 1) := by decide +kernel
theorem d85_353 : decode code 353 = .ok (.invokevirtual 61, 3) := by decide +kernel
theorem d85_356 : decode code 356 = .ok (.if_icmp .eq 133, 3) := by decide +kernel
theorem d85_361 : decode code 361 = .ok (.aload_n 1, 1) := by decide +kernel
theorem d85_362 : decode code 362 = .ok (.aload_n 0, 1) := by decide +kernel
theorem d85_363 : decode code 363 = .ok (.iload_n 3, 1) := by decide +kernel
theorem d85_364 : decode code 364 = .ok (.iconst 1, 1) := by decide +kernel
theorem d85_365 : decode code 365 = .ok (.iadd, 1) := by decide +kernel
theorem d85_366 : decode code 366 = .ok (.iaload, 1) := by decide +kernel
theorem d85_367 : decode code 367 = .ok (.aload_n 0, 1) := by decide +kernel
theorem d85_368 : decode code 368 = .ok (.iload_n 3, 1) := by decide +kernel
theorem d85_369 : decode code 369 = .ok (.iconst 2, 1) := by decide +kernel
theorem d85_370 : decode code 370 = .ok (.iadd, 1) := by decide +kernel
theorem d85_371 : decode code 371 = .ok (.iaload, 1) := by decide +kernel
theorem d85_372 : decode code 372 = .ok (.invokevirtual 62, 3) := by decide +kernel
theorem d85_375 : decode code 375 = .ok (.aload_n 2, 1) := by decide +kernel
theorem d85_376 : decode code 376 = .ok (.aload_n 0, 1) := by decide +kernel
theorem d85_377 : decode code 377 = .ok (.iload_n 3, 1) := by decide +kernel
theorem d85_378 : decode code 378 = .ok (.iconst 1, 1) := by decide +kernel
theorem d85_379 : decode code 379 = .ok (.iadd, 1) := by decide +kernel
theorem d85_380 : decode code 380 = .ok (.iaload, 1) := by decide +kernel
theorem d85_381 : decode code 381 = .ok (.aload_n 0, 1) := by decide +kernel
theorem d85_382 : decode code 382 = .ok (.iload_n 3, 1) := by decide +kernel
theorem d85_383 : decode code 383 = .ok (.iconst 2, 1) := by decide +kernel
theorem d85_384 : decode code 384 = .ok (.iadd, 1) := by decide +kernel
theorem d85_385 : decode code 385 = .ok (.iaload, 1) := by decide +kernel
theorem d85_386 : decode code 386 = .ok (.invokevirtual 65, 3) := by decide +kernel
theorem d85_389 : decode code 389 = .ok (.if_icmp .eq 100, 3) := by decide +kernel
theorem d85_394 : decode code 394 = .ok (.aload_n 1, 1) := by decide +kernel
theorem d85_395 : decode code 395 = .ok (.aload_n 0, 1) := by decide +kernel
theorem d85_396 : decode code 396 = .ok (.iload_n 3, 1) := by decide +kernel
theorem d85_397 : decode code 397 = .ok (.iconst 1, 1) := by decide +kernel
theorem d85_398 : decode code 398 = .ok (.iadd, 1) := by decide +kernel
theorem d85_399 : decode code 399 = .ok (.iaload, 1) := by decide +kernel
theorem d85_400 : decode code 400 = .ok (.aload_n 0, 1) := by decide +kernel
theorem d85_401 : decode code 401 = .ok (.iload_n 3, 1) := by decide +kernel
theorem d85_402 : decode code 402 = .ok (.iconst 2, 1) := by decide +kernel
theorem d85_403 : decode code 403 = .ok (.iadd, 1) := by decide +kernel
theorem d85_404 : decode code 404 = .ok (.iaload, 1) := by decide +kernel
theorem d85_405 : decode code 405 = .ok (.invokevirtual 66, 3) := by decide +kernel
theorem d85_408 : decode code 408 = .ok (.aload_n 2, 1) := by decide +kernel
theorem d85_409 : decode code 409 = .ok (.aload_n 0, 1) := by decide +kernel
theorem d85_410 : decode code 410 = .ok (.iload_n 3, 1) := by decide +kernel
theorem d85_411 : decode code 411 = .ok (.iconst 1, 1) := by decide +kernel
theorem d85_412 : decode code 412 = .ok (.iadd, 1) := by decide +kernel
theorem d85_413 : decode code 413 = .ok (.iaload, 1) := by decide +kernel
theorem d85_414 : decode code 414 = .ok (.aload_n 0, 1) := by decide +kernel
theorem d85_415 : decode code 415 = .ok (.iload_n 3, 1) := by decide +kernel
theorem d85_416 : decode code 416 = .ok (.iconst 2, 1) := by decide +kernel
theorem d85_417 : decode code 417 = .ok (.iadd, 1) := by decide +kernel
theorem d85_418 : decode code 418 = .ok (.iaload, 1) := by decide +kernel
theorem d85_419 : decode code 419 = .ok (.invokevirtual 69, 3) := by decide +kernel
theorem d85_422 : decode code 422 = .ok (.if_icmp .eq 67, 3) := by decide +kernel
theorem d85_427 : decode code 427 = .ok (.aload_n 1, 1) := by decide +kernel
theorem d85_428 : decode code 428 = .ok (.invokevirtual 70, 3) := by decide +kernel
theorem d85_431 : decode code 431 = .ok (.aload_n 2, 1) := by decide +kernel
theorem d85_432 : decode code 432 = .ok (.invokevirtual 73, 3) := by decide +kernel
theorem d85_435 : decode code 435 = .ok (.if_icmp .eq 54, 3) := by decide +kernel
theorem d85_440 : decode code 440 = .ok (.aload_n 1, 1) := by decide +kernel
theorem d85_441 : decode code 441 = .ok (.invokevirtual 74, 3) := by decide +kernel
theorem d85_444 : decode code 444 = .ok (.aload_n 2, 1) := by decide +kernel
theorem d85_445 : decode code 445 = .ok (.invokevirtual 77, 3) := by decide +kernel
theorem d85_448 : decode code 448 = .ok (.if_icmp .eq 41, 3) := by decide +kernel
theorem d85_453 : decode code 453 = .ok (.aload_n 1, 1) := by decide +kernel
theorem d85_454 : decode code 454 = .ok (.invokevirtual 78, 3) := by decide +kernel
theorem d85_457 : decode code 457 = .ok (.aload_n 2, 1) := by decide +kernel
theorem d85_458 : decode code 458 = .ok (.invokevirtual 81, 3) := by decide +kernel
theorem d85_461 : decode code 461 = .ok (.if_icmp .eq 28, 3) := by decide +kernel
theorem d85_466 : decode code 466 = .ok (.aload_n 1, 1) := by decide +kernel
theorem d85_467 : decode code 467 = .ok (.aload_n 0, 1) := by decide +kernel
theorem d85_468 : decode code 468 = .ok (.iload_n 3, 1) := by decide +kernel
theorem d85_469 : decode code 469 = .ok (.iconst 1, 1) := by decide +kernel
theorem d85_470 : decode code 470 = .ok (.iadd, 1) := by decide +kernel
theorem d85_471 : decode code 471 = .ok (.iaload, 1) := by decide +kernel
theorem d85_472 : decode code 472 = .ok (.invokevirtual 82, 3) := by decide +kernel
theorem d85_475 : decode code 475 = .ok (.aload_n 2, 1) := by decide +kernel
theorem d85_476 : decode code 476 = .ok (.aload_n 0, 1) := by decide +kernel
theorem d85_477 : decode code 477 = .ok (.iload_n 3, 1) := by decide +kernel
theorem d85_478 : decode code 478 = .ok (.iconst 1, 1) := by decide +kernel
theorem d85_479 : decode code 479 = .ok (.iadd, 1) := by decide +kernel
theorem d85_480 : decode code 480 = .ok (.iaload, 1) := by decide +kernel
theorem d85_481 : decode code 481 = .ok (.invokevirtual 85, 3) := by decide +kernel
theorem d85_484 : decode code 484 = .ok (.if_icmp .eq 5, 3) := by decide +kernel
theorem d85_489 : decode code 489 = .ok (.iinc 3 3, 3) := by decide +kernel
theorem d85_492 : decode code 492 = .ok (.goto (-474), 3) := by decide +kernel
theorem d85_495 : decode code 495 = .ok (.iconst 1, 1) := by decide +kernel
theorem d85_496 : decode code 496 = .ok (.ireturn, 1) := by decide +kernel
