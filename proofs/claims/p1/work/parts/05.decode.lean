theorem d0_0 : decode bM0 0 = .ok (.aload_n 0, 1) := by decide +kernel
theorem d0_1 : decode bM0 1 = .ok (.invokespecial 1, 3) := by decide +kernel
theorem d0_4 : decode bM0 4 = .ok (.return_, 1) := by decide +kernel
theorem d1_0 : decode bM1 0 = .ok (.aload_n 0, 1) := by decide +kernel
theorem d1_1 : decode bM1 1 = .ok (.invokespecial 1, 3) := by decide +kernel
theorem d1_4 : decode bM1 4 = .ok (.aload_n 0, 1) := by decide +kernel
theorem d1_5 : decode bM1 5 = .ok (.iconst 0, 1) := by decide +kernel
theorem d1_6 : decode bM1 6 = .ok (.putfield 7, 3) := by decide +kernel
theorem d1_9 : decode bM1 9 = .ok (.return_, 1) := by decide +kernel
theorem d2_0 : decode bM2 0 = .ok (.aload_n 0, 1) := by decide +kernel
theorem d2_1 : decode bM2 1 = .ok (.invokespecial 1, 3) := by decide +kernel
theorem d2_4 : decode bM2 4 = .ok (.aload_n 0, 1) := by decide +kernel
theorem d2_5 : decode bM2 5 = .ok (.getstatic 39, 3) := by decide +kernel
theorem d2_8 : decode bM2 8 = .ok (.putfield 9, 3) := by decide +kernel
theorem d2_11 : decode bM2 11 = .ok (.return_, 1) := by decide +kernel
theorem d3_0 : decode bM3 0 = .ok (.aload_n 0, 1) := by decide +kernel
theorem d3_1 : decode bM3 1 = .ok (.invokespecial 3, 3) := by decide +kernel
theorem d3_4 : decode bM3 4 = .ok (.getstatic 18, 3) := by decide +kernel
theorem d3_7 : decode bM3 7 = .ok (.ifCond .eq 18, 3) := by decide +kernel
theorem d3_10 : decode bM3 10 = .ok (.aload_n 0, 1) := by decide +kernel
theorem d3_11 : decode bM3 11 = .ok (.iload_n 1, 1) := by decide +kernel
theorem d3_12 : decode bM3 12 = .ok (.newarray .byte, 2) := by decide +kernel
theorem d3_14 : decode bM3 14 = .ok (.putfield 15, 3) := by decide +kernel
theorem d3_17 : decode bM3 17 = .ok (.aload_n 0, 1) := by decide +kernel
theorem d3_18 : decode bM3 18 = .ok (.iconst 0, 1) := by decide +kernel
theorem d3_19 : decode bM3 19 = .ok (.putfield 22, 3) := by decide +kernel
theorem d3_22 : decode bM3 22 = .ok (.goto 16, 3) := by decide +kernel
theorem d3_38 : decode bM3 38 = .ok (.return_, 1) := by decide +kernel
theorem d4_0 : decode bM4 0 = .ok (.aload_n 0, 1) := by decide +kernel
theorem d4_1 : decode bM4 1 = .ok (.bipush 16, 2) := by decide +kernel
theorem d4_3 : decode bM4 3 = .ok (.invokespecial 1, 3) := by decide +kernel
theorem d4_6 : decode bM4 6 = .ok (.return_, 1) := by decide +kernel
theorem d5_0 : decode bM5 0 = .ok (.aload_n 0, 1) := by decide +kernel
theorem d5_1 : decode bM5 1 = .ok (.getfield 79, 3) := by decide +kernel
theorem d5_4 : decode bM5 4 = .ok (.ireturn, 1) := by decide +kernel
theorem d6_0 : decode bM6 0 = .ok (.aload_n 0, 1) := by decide +kernel
theorem d6_1 : decode bM6 1 = .ok (.invokespecial 343, 3) := by decide +kernel
theorem d6_4 : decode bM6 4 = .ok (.ireturn, 1) := by decide +kernel
theorem d7_0 : decode bM7 0 = .ok (.getstatic 18, 3) := by decide +kernel
theorem d7_3 : decode bM7 3 = .ok (.ifCond .eq 14, 3) := by decide +kernel
theorem d7_6 : decode bM7 6 = .ok (.aload_n 0, 1) := by decide +kernel
theorem d7_7 : decode bM7 7 = .ok (.getfield 22, 3) := by decide +kernel
theorem d7_10 : decode bM7 10 = .ok (.ifCond .ne 7, 3) := by decide +kernel
theorem d7_13 : decode bM7 13 = .ok (.iconst 1, 1) := by decide +kernel
theorem d7_14 : decode bM7 14 = .ok (.goto 4, 3) := by decide +kernel
theorem d7_18 : decode bM7 18 = .ok (.ireturn, 1) := by decide +kernel
theorem d8_0 : decode bM8 0 = .ok (.aload_n 0, 1) := by decide +kernel
theorem d8_1 : decode bM8 1 = .ok (.getfield 15, 3) := by decide +kernel
theorem d8_4 : decode bM8 4 = .ok (.areturn, 1) := by decide +kernel
theorem d9_0 : decode bM9 0 = .ok (.iload_n 0, 1) := by decide +kernel
theorem d9_1 : decode bM9 1 = .ok (.sipush 255, 3) := by decide +kernel
theorem d9_4 : decode bM9 4 = .ok (.if_icmp .gt 7, 3) := by decide +kernel
theorem d9_7 : decode bM9 7 = .ok (.iconst 1, 1) := by decide +kernel
theorem d9_8 : decode bM9 8 = .ok (.goto 4, 3) := by decide +kernel
theorem d9_12 : decode bM9 12 = .ok (.ireturn, 1) := by decide +kernel
theorem d10_0 : decode bM10 0 = .ok (.aload_n 0, 1) := by decide +kernel
theorem d10_1 : decode bM10 1 = .ok (.getfield 15, 3) := by decide +kernel
theorem d10_4 : decode bM10 4 = .ok (.arraylength, 1) := by decide +kernel
theorem d10_5 : decode bM10 5 = .ok (.aload_n 0, 1) := by decide +kernel
theorem d10_6 : decode bM10 6 = .ok (.getfield 22, 3) := by decide +kernel
theorem d10_9 : decode bM10 9 = .ok (.ishr, 1) := by decide +kernel
theorem d10_10 : decode bM10 10 = .ok (.istore_n 2, 1) := by decide +kernel
theorem d10_11 : decode bM10 11 = .ok (.iload_n 1, 1) := by decide +kernel
theorem d10_12 : decode bM10 12 = .ok (.iload_n 2, 1) := by decide +kernel
theorem d10_13 : decode bM10 13 = .ok (.isub, 1) := by decide +kernel
theorem d10_14 : decode bM10 14 = .ok (.ifCond .le 24, 3) := by decide +kernel
theorem d10_38 : decode bM10 38 = .ok (.return_, 1) := by decide +kernel
theorem d11_0 : decode bM11 0 = .ok (.iload_n 1, 1) := by decide +kernel
theorem d11_1 : decode bM11 1 = .ok (.ifCond .ge 12, 3) := by decide +kernel
theorem d11_13 : decode bM11 13 = .ok (.aload_n 0, 1) := by decide +kernel
theorem d11_14 : decode bM11 14 = .ok (.iload_n 1, 1) := by decide +kernel
theorem d11_15 : decode bM11 15 = .ok (.invokevirtual 100, 3) := by decide +kernel
theorem d11_18 : decode bM11 18 = .ok (.aload_n 0, 1) := by decide +kernel
theorem d11_19 : decode bM11 19 = .ok (.getfield 79, 3) := by decide +kernel
theorem d11_22 : decode bM11 22 = .ok (.iload_n 1, 1) := by decide +kernel
theorem d11_23 : decode bM11 23 = .ok (.if_icmp .ge 40, 3) := by decide +kernel
theorem d11_63 : decode bM11 63 = .ok (.aload_n 0, 1) := by decide +kernel
theorem d11_64 : decode bM11 64 = .ok (.getfield 79, 3) := by decide +kernel
theorem d11_67 : decode bM11 67 = .ok (.iload_n 1, 1) := by decide +kernel
theorem d11_68 : decode bM11 68 = .ok (.if_icmp .le 8, 3) := by decide +kernel
theorem d11_76 : decode bM11 76 = .ok (.aload_n 0, 1) := by decide +kernel
theorem d11_77 : decode bM11 77 = .ok (.iload_n 1, 1) := by decide +kernel
theorem d11_78 : decode bM11 78 = .ok (.putfield 79, 3) := by decide +kernel
theorem d11_81 : decode bM11 81 = .ok (.return_, 1) := by decide +kernel
theorem d12_0 : decode bM12 0 = .ok (.aload_n 0, 1) := by decide +kernel
theorem d12_1 : decode bM12 1 = .ok (.iload_n 1, 1) := by decide +kernel
theorem d12_2 : decode bM12 2 = .ok (.invokespecial 333, 3) := by decide +kernel
theorem d12_5 : decode bM12 5 = .ok (.return_, 1) := by decide +kernel
theorem d13_0 : decode bM13 0 = .ok (.aload_n 0, 1) := by decide +kernel
theorem d13_1 : decode bM13 1 = .ok (.aload_n 0, 1) := by decide +kernel
theorem d13_2 : decode bM13 2 = .ok (.getfield 79, 3) := by decide +kernel
theorem d13_5 : decode bM13 5 = .ok (.iconst 1, 1) := by decide +kernel
theorem d13_6 : decode bM13 6 = .ok (.iadd, 1) := by decide +kernel
theorem d13_7 : decode bM13 7 = .ok (.invokevirtual 100, 3) := by decide +kernel
theorem d13_10 : decode bM13 10 = .ok (.aload_n 0, 1) := by decide +kernel
theorem d13_11 : decode bM13 11 = .ok (.invokevirtual 83, 3) := by decide +kernel
theorem d13_14 : decode bM13 14 = .ok (.ifCond .eq 31, 3) := by decide +kernel
theorem d13_17 : decode bM13 17 = .ok (.iload_n 1, 1) := by decide +kernel
theorem d13_18 : decode bM13 18 = .ok (.invokestatic 191, 3) := by decide +kernel
theorem d13_21 : decode bM13 21 = .ok (.ifCond .eq 24, 3) := by decide +kernel
theorem d13_24 : decode bM13 24 = .ok (.aload_n 0, 1) := by decide +kernel
theorem d13_25 : decode bM13 25 = .ok (.getfield 15, 3) := by decide +kernel
theorem d13_28 : decode bM13 28 = .ok (.aload_n 0, 1) := by decide +kernel
theorem d13_29 : decode bM13 29 = .ok (.dup, 1) := by decide +kernel
theorem d13_30 : decode bM13 30 = .ok (.getfield 79, 3) := by decide +kernel
theorem d13_33 : decode bM13 33 = .ok (.dup_x1, 1) := by decide +kernel
theorem d13_34 : decode bM13 34 = .ok (.iconst 1, 1) := by decide +kernel
theorem d13_35 : decode bM13 35 = .ok (.iadd, 1) := by decide +kernel
theorem d13_36 : decode bM13 36 = .ok (.putfield 79, 3) := by decide +kernel
theorem d13_39 : decode bM13 39 = .ok (.iload_n 1, 1) := by decide +kernel
theorem d13_40 : decode bM13 40 = .ok (.i2b, 1) := by decide +kernel
theorem d13_41 : decode bM13 41 = .ok (.bastore, 1) := by decide +kernel
theorem d13_42 : decode bM13 42 = .ok (.goto 33, 3) := by decide +kernel
theorem d13_75 : decode bM13 75 = .ok (.aload_n 0, 1) := by decide +kernel
theorem d13_76 : decode bM13 76 = .ok (.areturn, 1) := by decide +kernel
theorem d14_0 : decode bM14 0 = .ok (.aload_n 0, 1) := by decide +kernel
theorem d14_1 : decode bM14 1 = .ok (.iload_n 1, 1) := by decide +kernel
theorem d14_2 : decode bM14 2 = .ok (.invokespecial 50, 3) := by decide +kernel
theorem d14_5 : decode bM14 5 = .ok (.pop, 1) := by decide +kernel
theorem d14_6 : decode bM14 6 = .ok (.aload_n 0, 1) := by decide +kernel
theorem d14_7 : decode bM14 7 = .ok (.areturn, 1) := by decide +kernel
theorem d15_0 : decode bM15 0 = .ok (.iload_n 1, 1) := by decide +kernel
theorem d15_1 : decode bM15 1 = .ok (.iload_n 0, 1) := by decide +kernel
theorem d15_2 : decode bM15 2 = .ok (.if_icmp .ge 35, 3) := by decide +kernel
theorem d15_37 : decode bM15 37 = .ok (.return_, 1) := by decide +kernel
theorem d16_0 : decode bM16 0 = .ok (.iload_n 1, 1) := by decide +kernel
theorem d16_1 : decode bM16 1 = .ok (.iload_n 2, 1) := by decide +kernel
theorem d16_2 : decode bM16 2 = .ok (.invokestatic 343, 3) := by decide +kernel
theorem d16_5 : decode bM16 5 = .ok (.iload_n 2, 1) := by decide +kernel
theorem d16_6 : decode bM16 6 = .ok (.iload_n 1, 1) := by decide +kernel
theorem d16_7 : decode bM16 7 = .ok (.isub, 1) := by decide +kernel
theorem d16_8 : decode bM16 8 = .ok (.istore_n 3, 1) := by decide +kernel
theorem d16_9 : decode bM16 9 = .ok (.iload_n 3, 1) := by decide +kernel
theorem d16_10 : decode bM16 10 = .ok (.newarray .byte, 2) := by decide +kernel
theorem d16_12 : decode bM16 12 = .ok (.astore 4, 2) := by decide +kernel
theorem d16_14 : decode bM16 14 = .ok (.aload_n 0, 1) := by decide +kernel
theorem d16_15 : decode bM16 15 = .ok (.iload_n 1, 1) := by decide +kernel
theorem d16_16 : decode bM16 16 = .ok (.aload 4, 2) := by decide +kernel
theorem d16_18 : decode bM16 18 = .ok (.iconst 0, 1) := by decide +kernel
theorem d16_19 : decode bM16 19 = .ok (.aload_n 0, 1) := by decide +kernel
theorem d16_20 : decode bM16 20 = .ok (.arraylength, 1) := by decide +kernel
theorem d16_21 : decode bM16 21 = .ok (.iload_n 1, 1) := by decide +kernel
theorem d16_22 : decode bM16 22 = .ok (.isub, 1) := by decide +kernel
theorem d16_23 : decode bM16 23 = .ok (.iload_n 3, 1) := by decide +kernel
theorem d16_24 : decode bM16 24 = .ok (.invokestatic 304, 3) := by decide +kernel
theorem d16_27 : decode bM16 27 = .ok (.invokestatic 150, 3) := by decide +kernel
theorem d16_30 : decode bM16 30 = .ok (.aload 4, 2) := by decide +kernel
theorem d16_32 : decode bM16 32 = .ok (.areturn, 1) := by decide +kernel
theorem d17_0 : decode bM17 0 = .ok (.iload_n 1, 1) := by decide +kernel
theorem d17_1 : decode bM17 1 = .ok (.ifCond .ne 9, 3) := by decide +kernel
theorem d17_4 : decode bM17 4 = .ok (.iload_n 2, 1) := by decide +kernel
theorem d17_5 : decode bM17 5 = .ok (.aload_n 0, 1) := by decide +kernel
theorem d17_6 : decode bM17 6 = .ok (.arraylength, 1) := by decide +kernel
theorem d17_7 : decode bM17 7 = .ok (.if_icmp .eq 10, 3) := by decide +kernel
theorem d17_10 : decode bM17 10 = .ok (.aload_n 0, 1) := by decide +kernel
theorem d17_11 : decode bM17 11 = .ok (.iload_n 1, 1) := by decide +kernel
theorem d17_12 : decode bM17 12 = .ok (.iload_n 2, 1) := by decide +kernel
theorem d17_13 : decode bM17 13 = .ok (.invokestatic 339, 3) := by decide +kernel
theorem d17_16 : decode bM17 16 = .ok (.areturn, 1) := by decide +kernel
theorem d18_0 : decode bM18 0 = .ok (.aload_n 0, 1) := by decide +kernel
theorem d18_1 : decode bM18 1 = .ok (.invokespecial 1, 3) := by decide +kernel
theorem d18_4 : decode bM18 4 = .ok (.aload_n 1, 1) := by decide +kernel
theorem d18_5 : decode bM18 5 = .ok (.invokevirtual 552, 3) := by decide +kernel
theorem d18_8 : decode bM18 8 = .ok (.astore_n 3, 1) := by decide +kernel
theorem d18_9 : decode bM18 9 = .ok (.aload_n 1, 1) := by decide +kernel
theorem d18_10 : decode bM18 10 = .ok (.invokevirtual 549, 3) := by decide +kernel
theorem d18_13 : decode bM18 13 = .ok (.istore 4, 2) := by decide +kernel
theorem d18_15 : decode bM18 15 = .ok (.aload_n 1, 1) := by decide +kernel
theorem d18_16 : decode bM18 16 = .ok (.invokevirtual 1047, 3) := by decide +kernel
theorem d18_19 : decode bM18 19 = .ok (.ifCond .eq 22, 3) := by decide +kernel
theorem d18_22 : decode bM18 22 = .ok (.aload_n 0, 1) := by decide +kernel
theorem d18_23 : decode bM18 23 = .ok (.iconst 0, 1) := by decide +kernel
theorem d18_24 : decode bM18 24 = .ok (.putfield 15, 3) := by decide +kernel
theorem d18_27 : decode bM18 27 = .ok (.aload_n 0, 1) := by decide +kernel
theorem d18_28 : decode bM18 28 = .ok (.aload_n 3, 1) := by decide +kernel
theorem d18_29 : decode bM18 29 = .ok (.iconst 0, 1) := by decide +kernel
theorem d18_30 : decode bM18 30 = .ok (.iload 4, 2) := by decide +kernel
theorem d18_32 : decode bM18 32 = .ok (.invokestatic 54, 3) := by decide +kernel
theorem d18_35 : decode bM18 35 = .ok (.putfield 9, 3) := by decide +kernel
theorem d18_38 : decode bM18 38 = .ok (.goto 59, 3) := by decide +kernel
theorem d18_97 : decode bM18 97 = .ok (.return_, 1) := by decide +kernel
theorem d19_0 : decode bM19 0 = .ok (.aload_n 0, 1) := by decide +kernel
theorem d19_1 : decode bM19 1 = .ok (.aload_n 1, 1) := by decide +kernel
theorem d19_2 : decode bM19 2 = .ok (.aconst_null, 1) := by decide +kernel
theorem d19_3 : decode bM19 3 = .ok (.invokespecial 489, 3) := by decide +kernel
theorem d19_6 : decode bM19 6 = .ok (.return_, 1) := by decide +kernel
theorem d20_0 : decode bM20 0 = .ok (.new 18, 3) := by decide +kernel
theorem d20_3 : decode bM20 3 = .ok (.dup, 1) := by decide +kernel
theorem d20_4 : decode bM20 4 = .ok (.aload_n 0, 1) := by decide +kernel
theorem d20_5 : decode bM20 5 = .ok (.invokespecial 137, 3) := by decide +kernel
theorem d20_8 : decode bM20 8 = .ok (.areturn, 1) := by decide +kernel
theorem d21_0 : decode bM21 0 = .ok (.getstatic 38, 3) := by decide +kernel
theorem d21_3 : decode bM21 3 = .ok (.ifCond .eq 10, 3) := by decide +kernel
theorem d21_6 : decode bM21 6 = .ok (.aload_n 0, 1) := by decide +kernel
theorem d21_7 : decode bM21 7 = .ok (.getfield 15, 3) := by decide +kernel
theorem d21_10 : decode bM21 10 = .ok (.goto 4, 3) := by decide +kernel
theorem d21_14 : decode bM21 14 = .ok (.ireturn, 1) := by decide +kernel
theorem d22_0 : decode bM22 0 = .ok (.aload_n 0, 1) := by decide +kernel
theorem d22_1 : decode bM22 1 = .ok (.getfield 9, 3) := by decide +kernel
theorem d22_4 : decode bM22 4 = .ok (.arraylength, 1) := by decide +kernel
theorem d22_5 : decode bM22 5 = .ok (.aload_n 0, 1) := by decide +kernel
theorem d22_6 : decode bM22 6 = .ok (.invokevirtual 335, 3) := by decide +kernel
theorem d22_9 : decode bM22 9 = .ok (.ishr, 1) := by decide +kernel
theorem d22_10 : decode bM22 10 = .ok (.ireturn, 1) := by decide +kernel
theorem d23_0 : decode bM23 0 = .ok (.aload_n 0, 1) := by decide +kernel
theorem d23_1 : decode bM23 1 = .ok (.invokespecial 3, 3) := by decide +kernel
theorem d23_4 : decode bM23 4 = .ok (.aload_n 0, 1) := by decide +kernel
theorem d23_5 : decode bM23 5 = .ok (.sipush 200, 3) := by decide +kernel
theorem d23_8 : decode bM23 8 = .ok (.anewarray 9, 3) := by decide +kernel
theorem d23_11 : decode bM23 11 = .ok (.putfield 11, 3) := by decide +kernel
theorem d23_14 : decode bM23 14 = .ok (.aload_n 0, 1) := by decide +kernel
theorem d23_15 : decode bM23 15 = .ok (.bipush 40, 2) := by decide +kernel
theorem d23_17 : decode bM23 17 = .ok (.anewarray 9, 3) := by decide +kernel
theorem d23_20 : decode bM23 20 = .ok (.putfield 17, 3) := by decide +kernel
theorem d23_23 : decode bM23 23 = .ok (.aload_n 0, 1) := by decide +kernel
theorem d23_24 : decode bM23 24 = .ok (.bipush 40, 2) := by decide +kernel
theorem d23_26 : decode bM23 26 = .ok (.anewarray 9, 3) := by decide +kernel
theorem d23_29 : decode bM23 29 = .ok (.putfield 20, 3) := by decide +kernel
theorem d23_32 : decode bM23 32 = .ok (.return_, 1) := by decide +kernel
theorem d24_0 : decode bM24 0 = .ok (.iload_n 1, 1) := by decide +kernel
theorem d24_1 : decode bM24 1 = .ok (.ifCond .lt 24, 3) := by decide +kernel
theorem d24_4 : decode bM24 4 = .ok (.iload_n 1, 1) := by decide +kernel
theorem d24_5 : decode bM24 5 = .ok (.aload_n 0, 1) := by decide +kernel
theorem d24_6 : decode bM24 6 = .ok (.getfield 23, 3) := by decide +kernel
theorem d24_9 : decode bM24 9 = .ok (.if_icmp .ge 16, 3) := by decide +kernel
theorem d24_25 : decode bM24 25 = .ok (.aconst_null, 1) := by decide +kernel
theorem d24_26 : decode bM24 26 = .ok (.areturn, 1) := by decide +kernel
theorem d25_0 : decode bM25 0 = .ok (.iconst 0, 1) := by decide +kernel
theorem d25_1 : decode bM25 1 = .ok (.istore_n 1, 1) := by decide +kernel
theorem d25_2 : decode bM25 2 = .ok (.iload_n 1, 1) := by decide +kernel
theorem d25_3 : decode bM25 3 = .ok (.aload_n 0, 1) := by decide +kernel
theorem d25_4 : decode bM25 4 = .ok (.getfield 30, 3) := by decide +kernel
theorem d25_7 : decode bM25 7 = .ok (.if_icmp .ge 39, 3) := by decide +kernel
theorem d25_46 : decode bM25 46 = .ok (.aload_n 0, 1) := by decide +kernel
theorem d25_47 : decode bM25 47 = .ok (.aload_n 0, 1) := by decide +kernel
theorem d25_48 : decode bM25 48 = .ok (.getfield 30, 3) := by decide +kernel
theorem d25_51 : decode bM25 51 = .ok (.putfield 66, 3) := by decide +kernel
theorem d25_54 : decode bM25 54 = .ok (.return_, 1) := by decide +kernel
theorem d26_0 : decode bM26 0 = .ok (.iconst 0, 1) := by decide +kernel
theorem d26_1 : decode bM26 1 = .ok (.istore_n 1, 1) := by decide +kernel
theorem d26_2 : decode bM26 2 = .ok (.iload_n 1, 1) := by decide +kernel
theorem d26_3 : decode bM26 3 = .ok (.aload_n 0, 1) := by decide +kernel
theorem d26_4 : decode bM26 4 = .ok (.getfield 30, 3) := by decide +kernel
theorem d26_7 : decode bM26 7 = .ok (.if_icmp .ge 19, 3) := by decide +kernel
theorem d26_26 : decode bM26 26 = .ok (.return_, 1) := by decide +kernel
theorem d27_0 : decode bM27 0 = .ok (.iload_n 1, 1) := by decide +kernel
theorem d27_1 : decode bM27 1 = .ok (.istore_n 3, 1) := by decide +kernel
theorem d27_2 : decode bM27 2 = .ok (.iload_n 3, 1) := by decide +kernel
theorem d27_3 : decode bM27 3 = .ok (.iload_n 2, 1) := by decide +kernel
theorem d27_4 : decode bM27 4 = .ok (.if_icmp .ge 19, 3) := by decide +kernel
theorem d27_23 : decode bM27 23 = .ok (.iload_n 2, 1) := by decide +kernel
theorem d27_24 : decode bM27 24 = .ok (.istore_n 3, 1) := by decide +kernel
theorem d27_25 : decode bM27 25 = .ok (.iload_n 3, 1) := by decide +kernel
theorem d27_26 : decode bM27 26 = .ok (.aload_n 0, 1) := by decide +kernel
theorem d27_27 : decode bM27 27 = .ok (.getfield 30, 3) := by decide +kernel
theorem d27_30 : decode bM27 30 = .ok (.if_icmp .ge 25, 3) := by decide +kernel
theorem d27_55 : decode bM27 55 = .ok (.aload_n 0, 1) := by decide +kernel
theorem d27_56 : decode bM27 56 = .ok (.dup, 1) := by decide +kernel
theorem d27_57 : decode bM27 57 = .ok (.getfield 30, 3) := by decide +kernel
theorem d27_60 : decode bM27 60 = .ok (.iload_n 2, 1) := by decide +kernel
theorem d27_61 : decode bM27 61 = .ok (.iload_n 1, 1) := by decide +kernel
theorem d27_62 : decode bM27 62 = .ok (.isub, 1) := by decide +kernel
theorem d27_63 : decode bM27 63 = .ok (.isub, 1) := by decide +kernel
theorem d27_64 : decode bM27 64 = .ok (.putfield 30, 3) := by decide +kernel
theorem d27_67 : decode bM27 67 = .ok (.aload_n 0, 1) := by decide +kernel
theorem d27_68 : decode bM27 68 = .ok (.invokevirtual 52, 3) := by decide +kernel
theorem d27_71 : decode bM27 71 = .ok (.return_, 1) := by decide +kernel
theorem d28_0 : decode bM28 0 = .ok (.aload_n 0, 1) := by decide +kernel
theorem d28_1 : decode bM28 1 = .ok (.iconst 0, 1) := by decide +kernel
theorem d28_2 : decode bM28 2 = .ok (.aload_n 0, 1) := by decide +kernel
theorem d28_3 : decode bM28 3 = .ok (.getfield 30, 3) := by decide +kernel
theorem d28_6 : decode bM28 6 = .ok (.invokevirtual 55, 3) := by decide +kernel
theorem d28_9 : decode bM28 9 = .ok (.return_, 1) := by decide +kernel
theorem d29_0 : decode bM29 0 = .ok (.aload_n 0, 1) := by decide +kernel
theorem d29_1 : decode bM29 1 = .ok (.invokevirtual 69, 3) := by decide +kernel
theorem d29_4 : decode bM29 4 = .ok (.iconst 0, 1) := by decide +kernel
theorem d29_5 : decode bM29 5 = .ok (.istore_n 1, 1) := by decide +kernel
theorem d29_6 : decode bM29 6 = .ok (.iload_n 1, 1) := by decide +kernel
theorem d29_7 : decode bM29 7 = .ok (.aload_n 0, 1) := by decide +kernel
theorem d29_8 : decode bM29 8 = .ok (.getfield 66, 3) := by decide +kernel
theorem d29_11 : decode bM29 11 = .ok (.if_icmp .ge 39, 3) := by decide +kernel
theorem d29_50 : decode bM29 50 = .ok (.aload_n 0, 1) := by decide +kernel
theorem d29_51 : decode bM29 51 = .ok (.aload_n 0, 1) := by decide +kernel
theorem d29_52 : decode bM29 52 = .ok (.getfield 66, 3) := by decide +kernel
theorem d29_55 : decode bM29 55 = .ok (.putfield 30, 3) := by decide +kernel
theorem d29_58 : decode bM29 58 = .ok (.aload_n 0, 1) := by decide +kernel
theorem d29_59 : decode bM29 59 = .ok (.invokevirtual 52, 3) := by decide +kernel
theorem d29_62 : decode bM29 62 = .ok (.return_, 1) := by decide +kernel
theorem d30_0 : decode bM30 0 = .ok (.aload_n 0, 1) := by decide +kernel
theorem d30_1 : decode bM30 1 = .ok (.invokespecial 3, 3) := by decide +kernel
theorem d30_4 : decode bM30 4 = .ok (.aload_n 0, 1) := by decide +kernel
theorem d30_5 : decode bM30 5 = .ok (.aload_n 1, 1) := by decide +kernel
theorem d30_6 : decode bM30 6 = .ok (.putfield 9, 3) := by decide +kernel
theorem d30_9 : decode bM30 9 = .ok (.aload_n 0, 1) := by decide +kernel
theorem d30_10 : decode bM30 10 = .ok (.iconst 0, 1) := by decide +kernel
theorem d30_11 : decode bM30 11 = .ok (.putfield 15, 3) := by decide +kernel
theorem d30_14 : decode bM30 14 = .ok (.aload_n 0, 1) := by decide +kernel
theorem d30_15 : decode bM30 15 = .ok (.iconst (-1), 1) := by decide +kernel
theorem d30_16 : decode bM30 16 = .ok (.putfield 19, 3) := by decide +kernel
theorem d30_19 : decode bM30 19 = .ok (.return_, 1) := by decide +kernel
theorem d31_0 : decode bM31 0 = .ok (.aload_n 0, 1) := by decide +kernel
theorem d31_1 : decode bM31 1 = .ok (.aload_n 1, 1) := by decide +kernel
theorem d31_2 : decode bM31 2 = .ok (.invokespecial 3, 3) := by decide +kernel
theorem d31_5 : decode bM31 5 = .ok (.aload_n 0, 1) := by decide +kernel
theorem d31_6 : decode bM31 6 = .ok (.new 9, 3) := by decide +kernel
theorem d31_9 : decode bM31 9 = .ok (.dup, 1) := by decide +kernel
theorem d31_10 : decode bM31 10 = .ok (.invokespecial 11, 3) := by decide +kernel
theorem d31_13 : decode bM31 13 = .ok (.putfield 14, 3) := by decide +kernel
theorem d31_16 : decode bM31 16 = .ok (.aload_n 0, 1) := by decide +kernel
theorem d31_17 : decode bM31 17 = .ok (.aload_n 2, 1) := by decide +kernel
theorem d31_18 : decode bM31 18 = .ok (.putfield 20, 3) := by decide +kernel
theorem d31_21 : decode bM31 21 = .ok (.aload_n 0, 1) := by decide +kernel
theorem d31_22 : decode bM31 22 = .ok (.iconst 0, 1) := by decide +kernel
theorem d31_23 : decode bM31 23 = .ok (.putfield 24, 3) := by decide +kernel
theorem d31_26 : decode bM31 26 = .ok (.return_, 1) := by decide +kernel
theorem d32_0 : decode bM32 0 = .ok (.iload_n 1, 1) := by decide +kernel
theorem d32_1 : decode bM32 1 = .ok (.aload_n 0, 1) := by decide +kernel
theorem d32_2 : decode bM32 2 = .ok (.getfield 9, 3) := by decide +kernel
theorem d32_5 : decode bM32 5 = .ok (.invokevirtual 22, 3) := by decide +kernel
theorem d32_8 : decode bM32 8 = .ok (.if_icmp .ge 14, 3) := by decide +kernel
theorem d32_22 : decode bM32 22 = .ok (.iconst 0, 1) := by decide +kernel
theorem d32_23 : decode bM32 23 = .ok (.ireturn, 1) := by decide +kernel
theorem d33_0 : decode bM33 0 = .ok (.aload_n 0, 1) := by decide +kernel
theorem d33_1 : decode bM33 1 = .ok (.iload_n 1, 1) := by decide +kernel
theorem d33_2 : decode bM33 2 = .ok (.putfield 19, 3) := by decide +kernel
theorem d33_5 : decode bM33 5 = .ok (.iconst 0, 1) := by decide +kernel
theorem d33_6 : decode bM33 6 = .ok (.ireturn, 1) := by decide +kernel
theorem d34_0 : decode bM34 0 = .ok (.aload_n 0, 1) := by decide +kernel
theorem d34_1 : decode bM34 1 = .ok (.getfield 19, 3) := by decide +kernel
theorem d34_4 : decode bM34 4 = .ok (.iconst (-1), 1) := by decide +kernel
theorem d34_5 : decode bM34 5 = .ok (.if_icmp .eq 7, 3) := by decide +kernel
theorem d34_8 : decode bM34 8 = .ok (.iconst 1, 1) := by decide +kernel
theorem d34_9 : decode bM34 9 = .ok (.goto 4, 3) := by decide +kernel
theorem d34_13 : decode bM34 13 = .ok (.ireturn, 1) := by decide +kernel
theorem d35_0 : decode bM35 0 = .ok (.aload_n 0, 1) := by decide +kernel
theorem d35_1 : decode bM35 1 = .ok (.iconst 0, 1) := by decide +kernel
theorem d35_2 : decode bM35 2 = .ok (.invokevirtual 56, 3) := by decide +kernel
theorem d35_5 : decode bM35 5 = .ok (.bipush 60, 2) := by decide +kernel
theorem d35_7 : decode bM35 7 = .ok (.if_icmp .eq 9, 3) := by decide +kernel
theorem d35_10 : decode bM35 10 = .ok (.aload_n 0, 1) := by decide +kernel
theorem d35_11 : decode bM35 11 = .ok (.iconst 0, 1) := by decide +kernel
theorem d35_12 : decode bM35 12 = .ok (.invokevirtual 60, 3) := by decide +kernel
theorem d35_15 : decode bM35 15 = .ok (.ireturn, 1) := by decide +kernel
theorem d36_0 : decode bM36 0 = .ok (.aload_n 0, 1) := by decide +kernel
theorem d36_1 : decode bM36 1 = .ok (.invokespecial 3, 3) := by decide +kernel
theorem d36_4 : decode bM36 4 = .ok (.aload_n 0, 1) := by decide +kernel
theorem d36_5 : decode bM36 5 = .ok (.iload_n 1, 1) := by decide +kernel
theorem d36_6 : decode bM36 6 = .ok (.putfield 9, 3) := by decide +kernel
theorem d36_9 : decode bM36 9 = .ok (.aload_n 0, 1) := by decide +kernel
theorem d36_10 : decode bM36 10 = .ok (.iconst 0, 1) := by decide +kernel
theorem d36_11 : decode bM36 11 = .ok (.putfield 15, 3) := by decide +kernel
theorem d36_14 : decode bM36 14 = .ok (.aload_n 0, 1) := by decide +kernel
theorem d36_15 : decode bM36 15 = .ok (.iconst 0, 1) := by decide +kernel
theorem d36_16 : decode bM36 16 = .ok (.putfield 18, 3) := by decide +kernel
theorem d36_19 : decode bM36 19 = .ok (.return_, 1) := by decide +kernel
theorem d37_0 : decode bM37 0 = .ok (.aload_n 1, 1) := by decide +kernel
theorem d37_1 : decode bM37 1 = .ok (.astore_n 3, 1) := by decide +kernel
theorem d37_2 : decode bM37 2 = .ok (.aload_n 3, 1) := by decide +kernel
theorem d37_3 : decode bM37 3 = .ok (.ifnull 36, 3) := by decide +kernel
theorem d37_39 : decode bM37 39 = .ok (.return_, 1) := by decide +kernel
theorem d38_0 : decode bM38 0 = .ok (.aconst_null, 1) := by decide +kernel
theorem d38_1 : decode bM38 1 = .ok (.astore_n 2, 1) := by decide +kernel
theorem d38_2 : decode bM38 2 = .ok (.iconst 0, 1) := by decide +kernel
theorem d38_3 : decode bM38 3 = .ok (.istore_n 3, 1) := by decide +kernel
theorem d38_4 : decode bM38 4 = .ok (.iload_n 3, 1) := by decide +kernel
theorem d38_5 : decode bM38 5 = .ok (.aload_n 1, 1) := by decide +kernel
theorem d38_6 : decode bM38 6 = .ok (.getfield 21, 3) := by decide +kernel
theorem d38_9 : decode bM38 9 = .ok (.if_icmp .ge 130, 3) := by decide +kernel
theorem d38_139 : decode bM38 139 = .ok (.aload_n 0, 1) := by decide +kernel
theorem d38_140 : decode bM38 140 = .ok (.aload_n 2, 1) := by decide +kernel
theorem d38_141 : decode bM38 141 = .ok (.aconst_null, 1) := by decide +kernel
theorem d38_142 : decode bM38 142 = .ok (.invokevirtual 36, 3) := by decide +kernel
theorem d38_145 : decode bM38 145 = .ok (.return_, 1) := by decide +kernel
theorem d39_0 : decode bM39 0 = .ok (.aload_n 0, 1) := by decide +kernel
theorem d39_1 : decode bM39 1 = .ok (.invokespecial 1, 3) := by decide +kernel
theorem d39_4 : decode bM39 4 = .ok (.aload_n 0, 1) := by decide +kernel
theorem d39_5 : decode bM39 5 = .ok (.new 7, 3) := by decide +kernel
theorem d39_8 : decode bM39 8 = .ok (.dup, 1) := by decide +kernel
theorem d39_9 : decode bM39 9 = .ok (.invokespecial 9, 3) := by decide +kernel
theorem d39_12 : decode bM39 12 = .ok (.putfield 10, 3) := by decide +kernel
theorem d39_15 : decode bM39 15 = .ok (.aload_n 0, 1) := by decide +kernel
theorem d39_16 : decode bM39 16 = .ok (.new 7, 3) := by decide +kernel
theorem d39_19 : decode bM39 19 = .ok (.dup, 1) := by decide +kernel
theorem d39_20 : decode bM39 20 = .ok (.invokespecial 9, 3) := by decide +kernel
theorem d39_23 : decode bM39 23 = .ok (.putfield 16, 3) := by decide +kernel
theorem d39_26 : decode bM39 26 = .ok (.aload_n 0, 1) := by decide +kernel
theorem d39_27 : decode bM39 27 = .ok (.new 19, 3) := by decide +kernel
theorem d39_30 : decode bM39 30 = .ok (.dup, 1) := by decide +kernel
theorem d39_31 : decode bM39 31 = .ok (.invokespecial 21, 3) := by decide +kernel
theorem d39_34 : decode bM39 34 = .ok (.putfield 22, 3) := by decide +kernel
theorem d39_37 : decode bM39 37 = .ok (.aload_n 0, 1) := by decide +kernel
theorem d39_38 : decode bM39 38 = .ok (.bipush 40, 2) := by decide +kernel
theorem d39_40 : decode bM39 40 = .ok (.newarray .int, 2) := by decide +kernel
theorem d39_42 : decode bM39 42 = .ok (.putfield 26, 3) := by decide +kernel
theorem d39_45 : decode bM39 45 = .ok (.aload_n 0, 1) := by decide +kernel
theorem d39_46 : decode bM39 46 = .ok (.iconst 0, 1) := by decide +kernel
theorem d39_47 : decode bM39 47 = .ok (.putfield 30, 3) := by decide +kernel
theorem d39_50 : decode bM39 50 = .ok (.aload_n 0, 1) := by decide +kernel
theorem d39_51 : decode bM39 51 = .ok (.iconst 0, 1) := by decide +kernel
theorem d39_52 : decode bM39 52 = .ok (.putfield 34, 3) := by decide +kernel
theorem d39_55 : decode bM39 55 = .ok (.return_, 1) := by decide +kernel
theorem d40_0 : decode bM40 0 = .ok (.aload_n 0, 1) := by decide +kernel
theorem d40_1 : decode bM40 1 = .ok (.getfield 10, 3) := by decide +kernel
theorem d40_4 : decode bM40 4 = .ok (.invokevirtual 233, 3) := by decide +kernel
theorem d40_7 : decode bM40 7 = .ok (.astore_n 1, 1) := by decide +kernel
theorem d40_8 : decode bM40 8 = .ok (.aload_n 0, 1) := by decide +kernel
theorem d40_9 : decode bM40 9 = .ok (.getfield 10, 3) := by decide +kernel
theorem d40_12 : decode bM40 12 = .ok (.iconst 0, 1) := by decide +kernel
theorem d40_13 : decode bM40 13 = .ok (.invokevirtual 190, 3) := by decide +kernel
theorem d40_16 : decode bM40 16 = .ok (.aload_n 1, 1) := by decide +kernel
theorem d40_17 : decode bM40 17 = .ok (.areturn, 1) := by decide +kernel
theorem d41_0 : decode bM41 0 = .ok (.aload_n 0, 1) := by decide +kernel
theorem d41_1 : decode bM41 1 = .ok (.getfield 22, 3) := by decide +kernel
theorem d41_4 : decode bM41 4 = .ok (.invokevirtual 236, 3) := by decide +kernel
theorem d41_7 : decode bM41 7 = .ok (.aload_n 0, 1) := by decide +kernel
theorem d41_8 : decode bM41 8 = .ok (.iconst 0, 1) := by decide +kernel
theorem d41_9 : decode bM41 9 = .ok (.putfield 34, 3) := by decide +kernel
theorem d41_12 : decode bM41 12 = .ok (.return_, 1) := by decide +kernel
theorem d42_0 : decode bM42 0 = .ok (.iload_n 1, 1) := by decide +kernel
theorem d42_1 : decode bM42 1 = .ok (.bipush 32, 2) := by decide +kernel
theorem d42_3 : decode bM42 3 = .ok (.if_icmp .lt 21, 3) := by decide +kernel
theorem d42_6 : decode bM42 6 = .ok (.iload_n 1, 1) := by decide +kernel
theorem d42_7 : decode bM42 7 = .ok (.bipush 126, 2) := by decide +kernel
theorem d42_9 : decode bM42 9 = .ok (.if_icmp .gt 15, 3) := by decide +kernel
theorem d42_12 : decode bM42 12 = .ok (.aload_n 0, 1) := by decide +kernel
theorem d42_13 : decode bM42 13 = .ok (.getfield 10, 3) := by decide +kernel
theorem d42_16 : decode bM42 16 = .ok (.invokevirtual 37, 3) := by decide +kernel
theorem d42_19 : decode bM42 19 = .ok (.bipush 120, 2) := by decide +kernel
theorem d42_21 : decode bM42 21 = .ok (.if_icmp .lt 5, 3) := by decide +kernel
theorem d42_24 : decode bM42 24 = .ok (.iconst 0, 1) := by decide +kernel
theorem d42_25 : decode bM42 25 = .ok (.ireturn, 1) := by decide +kernel
theorem d42_26 : decode bM42 26 = .ok (.aload_n 0, 1) := by decide +kernel
theorem d42_27 : decode bM42 27 = .ok (.getfield 10, 3) := by decide +kernel
theorem d42_30 : decode bM42 30 = .ok (.iload_n 1, 1) := by decide +kernel
theorem d42_31 : decode bM42 31 = .ok (.invokevirtual 41, 3) := by decide +kernel
theorem d42_34 : decode bM42 34 = .ok (.pop, 1) := by decide +kernel
theorem d42_35 : decode bM42 35 = .ok (.iconst 1, 1) := by decide +kernel
theorem d42_36 : decode bM42 36 = .ok (.ireturn, 1) := by decide +kernel
theorem d43_0 : decode bM43 0 = .ok (.new 45, 3) := by decide +kernel
theorem d43_3 : decode bM43 3 = .ok (.dup, 1) := by decide +kernel
theorem d43_4 : decode bM43 4 = .ok (.aload_n 0, 1) := by decide +kernel
theorem d43_5 : decode bM43 5 = .ok (.invokevirtual 47, 3) := by decide +kernel
theorem d43_8 : decode bM43 8 = .ok (.aload_n 0, 1) := by decide +kernel
theorem d43_9 : decode bM43 9 = .ok (.getfield 16, 3) := by decide +kernel
theorem d43_12 : decode bM43 12 = .ok (.invokespecial 51, 3) := by decide +kernel
theorem d43_15 : decode bM43 15 = .ok (.astore_n 1, 1) := by decide +kernel
theorem d43_16 : decode bM43 16 = .ok (.aload_n 1, 1) := by decide +kernel
theorem d43_17 : decode bM43 17 = .ok (.invokevirtual 54, 3) := by decide +kernel
theorem d43_20 : decode bM43 20 = .ok (.pop, 1) := by decide +kernel
theorem d43_21 : decode bM43 21 = .ok (.aload_n 1, 1) := by decide +kernel
theorem d43_22 : decode bM43 22 = .ok (.invokevirtual 58, 3) := by decide +kernel
theorem d43_25 : decode bM43 25 = .ok (.ifCond .eq 10, 3) := by decide +kernel
theorem d43_28 : decode bM43 28 = .ok (.iconst (-1), 1) := by decide +kernel
theorem d43_29 : decode bM43 29 = .ok (.aload_n 1, 1) := by decide +kernel
theorem d43_30 : decode bM43 30 = .ok (.getfield 61, 3) := by decide +kernel
theorem d43_33 : decode bM43 33 = .ok (.isub, 1) := by decide +kernel
theorem d43_34 : decode bM43 34 = .ok (.ireturn, 1) := by decide +kernel
theorem d44_0 : decode bM44 0 = .ok (.aload_n 0, 1) := by decide +kernel
theorem d44_1 : decode bM44 1 = .ok (.invokevirtual 47, 3) := by decide +kernel
theorem d44_4 : decode bM44 4 = .ok (.astore_n 3, 1) := by decide +kernel
theorem d44_5 : decode bM44 5 = .ok (.aload_n 0, 1) := by decide +kernel
theorem d44_6 : decode bM44 6 = .ok (.getfield 22, 3) := by decide +kernel
theorem d44_9 : decode bM44 9 = .ok (.iload_n 1, 1) := by decide +kernel
theorem d44_10 : decode bM44 10 = .ok (.invokevirtual 90, 3) := by decide +kernel
theorem d44_13 : decode bM44 13 = .ok (.astore 4, 2) := by decide +kernel
theorem d44_15 : decode bM44 15 = .ok (.aload 4, 2) := by decide +kernel
theorem d44_17 : decode bM44 17 = .ok (.ifnonnull 7, 3) := by decide +kernel
theorem d44_20 : decode bM44 20 = .ok (.sipush (-1000), 3) := by decide +kernel
theorem d44_23 : decode bM44 23 = .ok (.ireturn, 1) := by decide +kernel
theorem d45_0 : decode bM45 0 = .ok (.aload_n 0, 1) := by decide +kernel
theorem d45_1 : decode bM45 1 = .ok (.getfield 22, 3) := by decide +kernel
theorem d45_4 : decode bM45 4 = .ok (.iload_n 1, 1) := by decide +kernel
theorem d45_5 : decode bM45 5 = .ok (.invokevirtual 90, 3) := by decide +kernel
theorem d45_8 : decode bM45 8 = .ok (.astore_n 2, 1) := by decide +kernel
theorem d45_9 : decode bM45 9 = .ok (.aload_n 2, 1) := by decide +kernel
theorem d45_10 : decode bM45 10 = .ok (.ifnonnull 7, 3) := by decide +kernel
theorem d45_13 : decode bM45 13 = .ok (.sipush (-1000), 3) := by decide +kernel
theorem d45_16 : decode bM45 16 = .ok (.ireturn, 1) := by decide +kernel
theorem d46_0 : decode bM46 0 = .ok (.aload_n 0, 1) := by decide +kernel
theorem d46_1 : decode bM46 1 = .ok (.invokevirtual 47, 3) := by decide +kernel
theorem d46_4 : decode bM46 4 = .ok (.astore_n 2, 1) := by decide +kernel
theorem d46_5 : decode bM46 5 = .ok (.aload_n 0, 1) := by decide +kernel
theorem d46_6 : decode bM46 6 = .ok (.getfield 22, 3) := by decide +kernel
theorem d46_9 : decode bM46 9 = .ok (.iload_n 1, 1) := by decide +kernel
theorem d46_10 : decode bM46 10 = .ok (.invokevirtual 90, 3) := by decide +kernel
theorem d46_13 : decode bM46 13 = .ok (.astore_n 3, 1) := by decide +kernel
theorem d46_14 : decode bM46 14 = .ok (.aload_n 3, 1) := by decide +kernel
theorem d46_15 : decode bM46 15 = .ok (.ifnull 14, 3) := by decide +kernel
theorem d46_29 : decode bM46 29 = .ok (.iconst 0, 1) := by decide +kernel
theorem d46_30 : decode bM46 30 = .ok (.ireturn, 1) := by decide +kernel
theorem d47_0 : decode bM47 0 = .ok (.aload_n 0, 1) := by decide +kernel
theorem d47_1 : decode bM47 1 = .ok (.invokevirtual 47, 3) := by decide +kernel
theorem d47_4 : decode bM47 4 = .ok (.astore_n 2, 1) := by decide +kernel
theorem d47_5 : decode bM47 5 = .ok (.aload_n 0, 1) := by decide +kernel
theorem d47_6 : decode bM47 6 = .ok (.getfield 22, 3) := by decide +kernel
theorem d47_9 : decode bM47 9 = .ok (.iload_n 1, 1) := by decide +kernel
theorem d47_10 : decode bM47 10 = .ok (.invokevirtual 90, 3) := by decide +kernel
theorem d47_13 : decode bM47 13 = .ok (.astore_n 3, 1) := by decide +kernel
theorem d47_14 : decode bM47 14 = .ok (.aload_n 3, 1) := by decide +kernel
theorem d47_15 : decode bM47 15 = .ok (.ifnonnull 7, 3) := by decide +kernel
theorem d47_18 : decode bM47 18 = .ok (.sipush (-1000), 3) := by decide +kernel
theorem d47_21 : decode bM47 21 = .ok (.ireturn, 1) := by decide +kernel
theorem d48_0 : decode bM48 0 = .ok (.iload_n 1, 1) := by decide +kernel
theorem d48_1 : decode bM48 1 = .ok (.ifCond .lt 20, 3) := by decide +kernel
theorem d48_4 : decode bM48 4 = .ok (.iload_n 1, 1) := by decide +kernel
theorem d48_5 : decode bM48 5 = .ok (.aload_n 0, 1) := by decide +kernel
theorem d48_6 : decode bM48 6 = .ok (.getfield 30, 3) := by decide +kernel
theorem d48_9 : decode bM48 9 = .ok (.if_icmp .ge 12, 3) := by decide +kernel
theorem d48_21 : decode bM48 21 = .ok (.sipush (-1000), 3) := by decide +kernel
theorem d48_24 : decode bM48 24 = .ok (.ireturn, 1) := by decide +kernel
theorem d49_0 : decode bM49 0 = .ok (.aload_n 0, 1) := by decide +kernel
theorem d49_1 : decode bM49 1 = .ok (.getfield 34, 3) := by decide +kernel
theorem d49_4 : decode bM49 4 = .ok (.istore_n 1, 1) := by decide +kernel
theorem d49_5 : decode bM49 5 = .ok (.aload_n 0, 1) := by decide +kernel
theorem d49_6 : decode bM49 6 = .ok (.invokevirtual 87, 3) := by decide +kernel
theorem d49_9 : decode bM49 9 = .ok (.iload_n 1, 1) := by decide +kernel
theorem d49_10 : decode bM49 10 = .ok (.ireturn, 1) := by decide +kernel
theorem d50_0 : decode bM50 0 = .ok (.aload_n 0, 1) := by decide +kernel
theorem d50_1 : decode bM50 1 = .ok (.getfield 34, 3) := by decide +kernel
theorem d50_4 : decode bM50 4 = .ok (.istore_n 1, 1) := by decide +kernel
theorem d50_5 : decode bM50 5 = .ok (.aload_n 0, 1) := by decide +kernel
theorem d50_6 : decode bM50 6 = .ok (.getfield 10, 3) := by decide +kernel
theorem d50_9 : decode bM50 9 = .ok (.iconst 0, 1) := by decide +kernel
theorem d50_10 : decode bM50 10 = .ok (.invokevirtual 190, 3) := by decide +kernel
theorem d50_13 : decode bM50 13 = .ok (.aload_n 0, 1) := by decide +kernel
theorem d50_14 : decode bM50 14 = .ok (.getfield 22, 3) := by decide +kernel
theorem d50_17 : decode bM50 17 = .ok (.invokevirtual 194, 3) := by decide +kernel
theorem d50_20 : decode bM50 20 = .ok (.aload_n 0, 1) := by decide +kernel
theorem d50_21 : decode bM50 21 = .ok (.invokevirtual 87, 3) := by decide +kernel
theorem d50_24 : decode bM50 24 = .ok (.iload_n 1, 1) := by decide +kernel
theorem d50_25 : decode bM50 25 = .ok (.ireturn, 1) := by decide +kernel
theorem d51_0 : decode bM51 0 = .ok (.aload_n 0, 1) := by decide +kernel
theorem d51_1 : decode bM51 1 = .ok (.getfield 22, 3) := by decide +kernel
theorem d51_4 : decode bM51 4 = .ok (.iload_n 1, 1) := by decide +kernel
theorem d51_5 : decode bM51 5 = .ok (.invokevirtual 90, 3) := by decide +kernel
theorem d51_8 : decode bM51 8 = .ok (.astore_n 2, 1) := by decide +kernel
theorem d51_9 : decode bM51 9 = .ok (.aload_n 2, 1) := by decide +kernel
theorem d51_10 : decode bM51 10 = .ok (.ifnonnull 9, 3) := by decide +kernel
theorem d51_13 : decode bM51 13 = .ok (.sipush (-1000), 3) := by decide +kernel
theorem d51_16 : decode bM51 16 = .ok (.goto 7, 3) := by decide +kernel
theorem d51_23 : decode bM51 23 = .ok (.ireturn, 1) := by decide +kernel
theorem d52_0 : decode bM52 0 = .ok (.aload_n 0, 1) := by decide +kernel
theorem d52_1 : decode bM52 1 = .ok (.getfield 22, 3) := by decide +kernel
theorem d52_4 : decode bM52 4 = .ok (.iload_n 1, 1) := by decide +kernel
theorem d52_5 : decode bM52 5 = .ok (.invokevirtual 90, 3) := by decide +kernel
theorem d52_8 : decode bM52 8 = .ok (.astore_n 3, 1) := by decide +kernel
theorem d52_9 : decode bM52 9 = .ok (.aload_n 3, 1) := by decide +kernel
theorem d52_10 : decode bM52 10 = .ok (.ifnonnull 7, 3) := by decide +kernel
theorem d52_13 : decode bM52 13 = .ok (.sipush (-1000), 3) := by decide +kernel
theorem d52_16 : decode bM52 16 = .ok (.ireturn, 1) := by decide +kernel
theorem d53_0 : decode bM53 0 = .ok (.aload_n 0, 1) := by decide +kernel
theorem d53_1 : decode bM53 1 = .ok (.getfield 22, 3) := by decide +kernel
theorem d53_4 : decode bM53 4 = .ok (.iload_n 1, 1) := by decide +kernel
theorem d53_5 : decode bM53 5 = .ok (.invokevirtual 90, 3) := by decide +kernel
theorem d53_8 : decode bM53 8 = .ok (.astore_n 3, 1) := by decide +kernel
theorem d53_9 : decode bM53 9 = .ok (.aload_n 3, 1) := by decide +kernel
theorem d53_10 : decode bM53 10 = .ok (.ifnull 18, 3) := by decide +kernel
theorem d53_28 : decode bM53 28 = .ok (.iconst 0, 1) := by decide +kernel
theorem d53_29 : decode bM53 29 = .ok (.goto 11, 3) := by decide +kernel
theorem d53_40 : decode bM53 40 = .ok (.ireturn, 1) := by decide +kernel
theorem d54_0 : decode bM54 0 = .ok (.aload_n 0, 1) := by decide +kernel
theorem d54_1 : decode bM54 1 = .ok (.getfield 22, 3) := by decide +kernel
theorem d54_4 : decode bM54 4 = .ok (.iload_n 1, 1) := by decide +kernel
theorem d54_5 : decode bM54 5 = .ok (.invokevirtual 90, 3) := by decide +kernel
theorem d54_8 : decode bM54 8 = .ok (.astore_n 3, 1) := by decide +kernel
theorem d54_9 : decode bM54 9 = .ok (.aload_n 3, 1) := by decide +kernel
theorem d54_10 : decode bM54 10 = .ok (.ifnull 16, 3) := by decide +kernel
theorem d54_26 : decode bM54 26 = .ok (.iconst 0, 1) := by decide +kernel
theorem d54_27 : decode bM54 27 = .ok (.goto 9, 3) := by decide +kernel
theorem d54_36 : decode bM54 36 = .ok (.ireturn, 1) := by decide +kernel
theorem d55_0 : decode bM55 0 = .ok (.aload_n 0, 1) := by decide +kernel
theorem d55_1 : decode bM55 1 = .ok (.getfield 22, 3) := by decide +kernel
theorem d55_4 : decode bM55 4 = .ok (.getfield 200, 3) := by decide +kernel
theorem d55_7 : decode bM55 7 = .ok (.ifCond .ne 9, 3) := by decide +kernel
theorem d55_10 : decode bM55 10 = .ok (.sipush (-1000), 3) := by decide +kernel
theorem d55_13 : decode bM55 13 = .ok (.goto 15, 3) := by decide +kernel
theorem d55_28 : decode bM55 28 = .ok (.ireturn, 1) := by decide +kernel
theorem d56_0 : decode bM56 0 = .ok (.aload_n 0, 1) := by decide +kernel
theorem d56_1 : decode bM56 1 = .ok (.getfield 22, 3) := by decide +kernel
theorem d56_4 : decode bM56 4 = .ok (.getfield 200, 3) := by decide +kernel
theorem d56_7 : decode bM56 7 = .ok (.ireturn, 1) := by decide +kernel
theorem d57_0 : decode bM57 0 = .ok (.new 220, 3) := by decide +kernel
theorem d57_3 : decode bM57 3 = .ok (.dup, 1) := by decide +kernel
theorem d57_4 : decode bM57 4 = .ok (.iconst (-1), 1) := by decide +kernel
theorem d57_5 : decode bM57 5 = .ok (.invokespecial 222, 3) := by decide +kernel
theorem d57_8 : decode bM57 8 = .ok (.astore_n 1, 1) := by decide +kernel
theorem d57_9 : decode bM57 9 = .ok (.aload_n 1, 1) := by decide +kernel
theorem d57_10 : decode bM57 10 = .ok (.aload_n 0, 1) := by decide +kernel
theorem d57_11 : decode bM57 11 = .ok (.getfield 22, 3) := by decide +kernel
theorem d57_14 : decode bM57 14 = .ok (.invokevirtual 224, 3) := by decide +kernel
theorem d57_17 : decode bM57 17 = .ok (.aload_n 1, 1) := by decide +kernel
theorem d57_18 : decode bM57 18 = .ok (.getfield 227, 3) := by decide +kernel
theorem d57_21 : decode bM57 21 = .ok (.ireturn, 1) := by decide +kernel
theorem d58_0 : decode bM58 0 = .ok (.new 220, 3) := by decide +kernel
theorem d58_3 : decode bM58 3 = .ok (.dup, 1) := by decide +kernel
theorem d58_4 : decode bM58 4 = .ok (.iload_n 1, 1) := by decide +kernel
theorem d58_5 : decode bM58 5 = .ok (.invokespecial 222, 3) := by decide +kernel
theorem d58_8 : decode bM58 8 = .ok (.astore_n 2, 1) := by decide +kernel
theorem d58_9 : decode bM58 9 = .ok (.aload_n 2, 1) := by decide +kernel
theorem d58_10 : decode bM58 10 = .ok (.aload_n 0, 1) := by decide +kernel
theorem d58_11 : decode bM58 11 = .ok (.getfield 22, 3) := by decide +kernel
theorem d58_14 : decode bM58 14 = .ok (.invokevirtual 224, 3) := by decide +kernel
theorem d58_17 : decode bM58 17 = .ok (.aload_n 2, 1) := by decide +kernel
theorem d58_18 : decode bM58 18 = .ok (.getfield 230, 3) := by decide +kernel
theorem d58_21 : decode bM58 21 = .ok (.ireturn, 1) := by decide +kernel
theorem d59_0 : decode bM59 0 = .ok (.aload_n 0, 1) := by decide +kernel
theorem d59_1 : decode bM59 1 = .ok (.invokespecial 1, 3) := by decide +kernel
theorem d59_4 : decode bM59 4 = .ok (.aload_n 0, 1) := by decide +kernel
theorem d59_5 : decode bM59 5 = .ok (.sipush 5161, 3) := by decide +kernel
theorem d59_8 : decode bM59 8 = .ok (.newarray .int, 2) := by decide +kernel
theorem d59_10 : decode bM59 10 = .ok (.putfield 7, 3) := by decide +kernel
theorem d59_13 : decode bM59 13 = .ok (.aload_n 0, 1) := by decide +kernel
theorem d59_14 : decode bM59 14 = .ok (.sipush 5161, 3) := by decide +kernel
theorem d59_17 : decode bM59 17 = .ok (.newarray .int, 2) := by decide +kernel
theorem d59_19 : decode bM59 19 = .ok (.putfield 13, 3) := by decide +kernel
theorem d59_22 : decode bM59 22 = .ok (.aload_n 0, 1) := by decide +kernel
theorem d59_23 : decode bM59 23 = .ok (.sipush 5120, 3) := by decide +kernel
theorem d59_26 : decode bM59 26 = .ok (.newarray .int, 2) := by decide +kernel
theorem d59_28 : decode bM59 28 = .ok (.putfield 16, 3) := by decide +kernel
theorem d59_31 : decode bM59 31 = .ok (.aload_n 0, 1) := by decide +kernel
theorem d59_32 : decode bM59 32 = .ok (.bipush 40, 2) := by decide +kernel
theorem d59_34 : decode bM59 34 = .ok (.newarray .int, 2) := by decide +kernel
theorem d59_36 : decode bM59 36 = .ok (.putfield 19, 3) := by decide +kernel
theorem d59_39 : decode bM59 39 = .ok (.aload_n 0, 1) := by decide +kernel
theorem d59_40 : decode bM59 40 = .ok (.bipush 120, 2) := by decide +kernel
theorem d59_42 : decode bM59 42 = .ok (.newarray .char, 2) := by decide +kernel
theorem d59_44 : decode bM59 44 = .ok (.putfield 22, 3) := by decide +kernel
theorem d59_47 : decode bM59 47 = .ok (.aload_n 0, 1) := by decide +kernel
theorem d59_48 : decode bM59 48 = .ok (.bipush 8, 2) := by decide +kernel
theorem d59_50 : decode bM59 50 = .ok (.newarray .int, 2) := by decide +kernel
theorem d59_52 : decode bM59 52 = .ok (.putfield 26, 3) := by decide +kernel
theorem d59_55 : decode bM59 55 = .ok (.aload_n 0, 1) := by decide +kernel
theorem d59_56 : decode bM59 56 = .ok (.bipush 8, 2) := by decide +kernel
theorem d59_58 : decode bM59 58 = .ok (.newarray .int, 2) := by decide +kernel
theorem d59_60 : decode bM59 60 = .ok (.putfield 29, 3) := by decide +kernel
theorem d59_63 : decode bM59 63 = .ok (.aload_n 0, 1) := by decide +kernel
theorem d59_64 : decode bM59 64 = .ok (.bipush 8, 2) := by decide +kernel
theorem d59_66 : decode bM59 66 = .ok (.newarray .int, 2) := by decide +kernel
theorem d59_68 : decode bM59 68 = .ok (.putfield 32, 3) := by decide +kernel
theorem d59_71 : decode bM59 71 = .ok (.aload_n 0, 1) := by decide +kernel
theorem d59_72 : decode bM59 72 = .ok (.bipush 30, 2) := by decide +kernel
theorem d59_74 : decode bM59 74 = .ok (.newarray .int, 2) := by decide +kernel
theorem d59_76 : decode bM59 76 = .ok (.putfield 35, 3) := by decide +kernel
theorem d59_79 : decode bM59 79 = .ok (.aload_n 0, 1) := by decide +kernel
theorem d59_80 : decode bM59 80 = .ok (.bipush 30, 2) := by decide +kernel
theorem d59_82 : decode bM59 82 = .ok (.newarray .int, 2) := by decide +kernel
theorem d59_84 : decode bM59 84 = .ok (.putfield 38, 3) := by decide +kernel
theorem d59_87 : decode bM59 87 = .ok (.aload_n 0, 1) := by decide +kernel
theorem d59_88 : decode bM59 88 = .ok (.bipush 40, 2) := by decide +kernel
theorem d59_90 : decode bM59 90 = .ok (.newarray .int, 2) := by decide +kernel
theorem d59_92 : decode bM59 92 = .ok (.putfield 41, 3) := by decide +kernel
theorem d59_95 : decode bM59 95 = .ok (.aload_n 0, 1) := by decide +kernel
theorem d59_96 : decode bM59 96 = .ok (.sipush 130, 3) := by decide +kernel
theorem d59_99 : decode bM59 99 = .ok (.newarray .int, 2) := by decide +kernel
theorem d59_101 : decode bM59 101 = .ok (.putfield 44, 3) := by decide +kernel
theorem d59_104 : decode bM59 104 = .ok (.aload_n 0, 1) := by decide +kernel
theorem d59_105 : decode bM59 105 = .ok (.sipush 130, 3) := by decide +kernel
theorem d59_108 : decode bM59 108 = .ok (.newarray .int, 2) := by decide +kernel
theorem d59_110 : decode bM59 110 = .ok (.putfield 47, 3) := by decide +kernel
theorem d59_113 : decode bM59 113 = .ok (.aload_n 0, 1) := by decide +kernel
theorem d59_114 : decode bM59 114 = .ok (.sipush 130, 3) := by decide +kernel
theorem d59_117 : decode bM59 117 = .ok (.newarray .int, 2) := by decide +kernel
theorem d59_119 : decode bM59 119 = .ok (.putfield 50, 3) := by decide +kernel
theorem d59_122 : decode bM59 122 = .ok (.aload_n 0, 1) := by decide +kernel
theorem d59_123 : decode bM59 123 = .ok (.sipush 130, 3) := by decide +kernel
theorem d59_126 : decode bM59 126 = .ok (.newarray .int, 2) := by decide +kernel
theorem d59_128 : decode bM59 128 = .ok (.putfield 53, 3) := by decide +kernel
theorem d59_131 : decode bM59 131 = .ok (.aload_n 0, 1) := by decide +kernel
theorem d59_132 : decode bM59 132 = .ok (.sipush 130, 3) := by decide +kernel
theorem d59_135 : decode bM59 135 = .ok (.newarray .int, 2) := by decide +kernel
theorem d59_137 : decode bM59 137 = .ok (.putfield 56, 3) := by decide +kernel
theorem d59_140 : decode bM59 140 = .ok (.aload_n 0, 1) := by decide +kernel
theorem d59_141 : decode bM59 141 = .ok (.sipush 130, 3) := by decide +kernel
theorem d59_144 : decode bM59 144 = .ok (.newarray .int, 2) := by decide +kernel
theorem d59_146 : decode bM59 146 = .ok (.putfield 59, 3) := by decide +kernel
theorem d59_149 : decode bM59 149 = .ok (.aload_n 0, 1) := by decide +kernel
theorem d59_150 : decode bM59 150 = .ok (.bipush 65, 2) := by decide +kernel
theorem d59_152 : decode bM59 152 = .ok (.newarray .int, 2) := by decide +kernel
theorem d59_154 : decode bM59 154 = .ok (.putfield 62, 3) := by decide +kernel
theorem d59_157 : decode bM59 157 = .ok (.aload_n 0, 1) := by decide +kernel
theorem d59_158 : decode bM59 158 = .ok (.bipush 65, 2) := by decide +kernel
theorem d59_160 : decode bM59 160 = .ok (.newarray .int, 2) := by decide +kernel
theorem d59_162 : decode bM59 162 = .ok (.putfield 65, 3) := by decide +kernel
theorem d59_165 : decode bM59 165 = .ok (.aload_n 0, 1) := by decide +kernel
theorem d59_166 : decode bM59 166 = .ok (.bipush 65, 2) := by decide +kernel
theorem d59_168 : decode bM59 168 = .ok (.newarray .int, 2) := by decide +kernel
theorem d59_170 : decode bM59 170 = .ok (.putfield 68, 3) := by decide +kernel
theorem d59_173 : decode bM59 173 = .ok (.aload_n 0, 1) := by decide +kernel
theorem d59_174 : decode bM59 174 = .ok (.bipush 65, 2) := by decide +kernel
theorem d59_176 : decode bM59 176 = .ok (.newarray .int, 2) := by decide +kernel
theorem d59_178 : decode bM59 178 = .ok (.putfield 71, 3) := by decide +kernel
theorem d59_181 : decode bM59 181 = .ok (.aload_n 0, 1) := by decide +kernel
theorem d59_182 : decode bM59 182 = .ok (.bipush 65, 2) := by decide +kernel
theorem d59_184 : decode bM59 184 = .ok (.newarray .int, 2) := by decide +kernel
theorem d59_186 : decode bM59 186 = .ok (.putfield 74, 3) := by decide +kernel
theorem d59_189 : decode bM59 189 = .ok (.aload_n 0, 1) := by decide +kernel
theorem d59_190 : decode bM59 190 = .ok (.bipush 65, 2) := by decide +kernel
theorem d59_192 : decode bM59 192 = .ok (.newarray .int, 2) := by decide +kernel
theorem d59_194 : decode bM59 194 = .ok (.putfield 77, 3) := by decide +kernel
theorem d59_197 : decode bM59 197 = .ok (.aload_n 0, 1) := by decide +kernel
theorem d59_198 : decode bM59 198 = .ok (.bipush 65, 2) := by decide +kernel
theorem d59_200 : decode bM59 200 = .ok (.newarray .int, 2) := by decide +kernel
theorem d59_202 : decode bM59 202 = .ok (.putfield 80, 3) := by decide +kernel
theorem d59_205 : decode bM59 205 = .ok (.aload_n 0, 1) := by decide +kernel
theorem d59_206 : decode bM59 206 = .ok (.bipush 65, 2) := by decide +kernel
theorem d59_208 : decode bM59 208 = .ok (.newarray .int, 2) := by decide +kernel
theorem d59_210 : decode bM59 210 = .ok (.putfield 83, 3) := by decide +kernel
theorem d59_213 : decode bM59 213 = .ok (.aload_n 0, 1) := by decide +kernel
theorem d59_214 : decode bM59 214 = .ok (.bipush 65, 2) := by decide +kernel
theorem d59_216 : decode bM59 216 = .ok (.newarray .boolean, 2) := by decide +kernel
theorem d59_218 : decode bM59 218 = .ok (.putfield 86, 3) := by decide +kernel
theorem d59_221 : decode bM59 221 = .ok (.aload_n 0, 1) := by decide +kernel
theorem d59_222 : decode bM59 222 = .ok (.bipush 65, 2) := by decide +kernel
theorem d59_224 : decode bM59 224 = .ok (.newarray .boolean, 2) := by decide +kernel
theorem d59_226 : decode bM59 226 = .ok (.putfield 90, 3) := by decide +kernel
theorem d59_229 : decode bM59 229 = .ok (.aload_n 0, 1) := by decide +kernel
theorem d59_230 : decode bM59 230 = .ok (.bipush 65, 2) := by decide +kernel
theorem d59_232 : decode bM59 232 = .ok (.newarray .long, 2) := by decide +kernel
theorem d59_234 : decode bM59 234 = .ok (.putfield 93, 3) := by decide +kernel
theorem d59_237 : decode bM59 237 = .ok (.aload_n 0, 1) := by decide +kernel
theorem d59_238 : decode bM59 238 = .ok (.bipush 65, 2) := by decide +kernel
theorem d59_240 : decode bM59 240 = .ok (.newarray .int, 2) := by decide +kernel
theorem d59_242 : decode bM59 242 = .ok (.putfield 97, 3) := by decide +kernel
theorem d59_245 : decode bM59 245 = .ok (.aload_n 0, 1) := by decide +kernel
theorem d59_246 : decode bM59 246 = .ok (.iconst 5, 1) := by decide +kernel
theorem d59_247 : decode bM59 247 = .ok (.newarray .int, 2) := by decide +kernel
theorem d59_249 : decode bM59 249 = .ok (.putfield 100, 3) := by decide +kernel
theorem d59_252 : decode bM59 252 = .ok (.aload_n 0, 1) := by decide +kernel
theorem d59_253 : decode bM59 253 = .ok (.iconst 5, 1) := by decide +kernel
theorem d59_254 : decode bM59 254 = .ok (.newarray .int, 2) := by decide +kernel
theorem d59_256 : decode bM59 256 = .ok (.putfield 103, 3) := by decide +kernel
theorem d59_259 : decode bM59 259 = .ok (.aload_n 0, 1) := by decide +kernel
theorem d59_260 : decode bM59 260 = .ok (.iconst 5, 1) := by decide +kernel
theorem d59_261 : decode bM59 261 = .ok (.newarray .int, 2) := by decide +kernel
theorem d59_263 : decode bM59 263 = .ok (.putfield 106, 3) := by decide +kernel
theorem d59_266 : decode bM59 266 = .ok (.aload_n 0, 1) := by decide +kernel
theorem d59_267 : decode bM59 267 = .ok (.bipush 41, 2) := by decide +kernel
theorem d59_269 : decode bM59 269 = .ok (.newarray .int, 2) := by decide +kernel
theorem d59_271 : decode bM59 271 = .ok (.putfield 109, 3) := by decide +kernel
theorem d59_274 : decode bM59 274 = .ok (.aload_n 0, 1) := by decide +kernel
theorem d59_275 : decode bM59 275 = .ok (.bipush 40, 2) := by decide +kernel
theorem d59_277 : decode bM59 277 = .ok (.newarray .int, 2) := by decide +kernel
theorem d59_279 : decode bM59 279 = .ok (.putfield 112, 3) := by decide +kernel
theorem d59_282 : decode bM59 282 = .ok (.return_, 1) := by decide +kernel
theorem d60_0 : decode bM60 0 = .ok (.aload_n 0, 1) := by decide +kernel
theorem d60_1 : decode bM60 1 = .ok (.getfield 7, 3) := by decide +kernel
theorem d60_4 : decode bM60 4 = .ok (.sipush 5160, 3) := by decide +kernel
theorem d60_7 : decode bM60 7 = .ok (.iaload, 1) := by decide +kernel
theorem d60_8 : decode bM60 8 = .ok (.ireturn, 1) := by decide +kernel
theorem d61_0 : decode bM61 0 = .ok (.iconst 0, 1) := by decide +kernel
theorem d61_1 : decode bM61 1 = .ok (.istore_n 2, 1) := by decide +kernel
theorem d61_2 : decode bM61 2 = .ok (.iload_n 2, 1) := by decide +kernel
theorem d61_3 : decode bM61 3 = .ok (.aload_n 0, 1) := by decide +kernel
theorem d61_4 : decode bM61 4 = .ok (.invokevirtual 115, 3) := by decide +kernel
theorem d61_7 : decode bM61 7 = .ok (.if_icmp .ge 31, 3) := by decide +kernel
theorem d61_38 : decode bM61 38 = .ok (.iconst (-1), 1) := by decide +kernel
theorem d61_39 : decode bM61 39 = .ok (.ireturn, 1) := by decide +kernel
theorem d62_0 : decode bM62 0 = .ok (.iload_n 1, 1) := by decide +kernel
theorem d62_1 : decode bM62 1 = .ok (.bipush 32, 2) := by decide +kernel
theorem d62_3 : decode bM62 3 = .ok (.if_icmp .lt 18, 3) := by decide +kernel
theorem d62_6 : decode bM62 6 = .ok (.iload_n 1, 1) := by decide +kernel
theorem d62_7 : decode bM62 7 = .ok (.bipush 126, 2) := by decide +kernel
theorem d62_9 : decode bM62 9 = .ok (.if_icmp .gt 12, 3) := by decide +kernel
theorem d62_12 : decode bM62 12 = .ok (.aload_n 0, 1) := by decide +kernel
theorem d62_13 : decode bM62 13 = .ok (.getfield 133, 3) := by decide +kernel
theorem d62_16 : decode bM62 16 = .ok (.bipush 120, 2) := by decide +kernel
theorem d62_18 : decode bM62 18 = .ok (.if_icmp .lt 5, 3) := by decide +kernel
theorem d62_21 : decode bM62 21 = .ok (.iconst 0, 1) := by decide +kernel
theorem d62_22 : decode bM62 22 = .ok (.ireturn, 1) := by decide +kernel
theorem d62_23 : decode bM62 23 = .ok (.aload_n 0, 1) := by decide +kernel
theorem d62_24 : decode bM62 24 = .ok (.getfield 22, 3) := by decide +kernel
theorem d62_27 : decode bM62 27 = .ok (.aload_n 0, 1) := by decide +kernel
theorem d62_28 : decode bM62 28 = .ok (.getfield 133, 3) := by decide +kernel
theorem d62_31 : decode bM62 31 = .ok (.iload_n 1, 1) := by decide +kernel
theorem d62_32 : decode bM62 32 = .ok (.castore, 1) := by decide +kernel
theorem d62_33 : decode bM62 33 = .ok (.aload_n 0, 1) := by decide +kernel
theorem d62_34 : decode bM62 34 = .ok (.dup, 1) := by decide +kernel
theorem d62_35 : decode bM62 35 = .ok (.getfield 133, 3) := by decide +kernel
theorem d62_38 : decode bM62 38 = .ok (.iconst 1, 1) := by decide +kernel
theorem d62_39 : decode bM62 39 = .ok (.iadd, 1) := by decide +kernel
theorem d62_40 : decode bM62 40 = .ok (.putfield 133, 3) := by decide +kernel
theorem d62_43 : decode bM62 43 = .ok (.iconst 1, 1) := by decide +kernel
theorem d62_44 : decode bM62 44 = .ok (.ireturn, 1) := by decide +kernel
theorem d63_0 : decode bM63 0 = .ok (.aload_n 0, 1) := by decide +kernel
theorem d63_1 : decode bM63 1 = .ok (.getfield 137, 3) := by decide +kernel
theorem d63_4 : decode bM63 4 = .ok (.ifCond .ge 23, 3) := by decide +kernel
theorem d63_7 : decode bM63 7 = .ok (.aload_n 0, 1) := by decide +kernel
theorem d63_8 : decode bM63 8 = .ok (.iload_n 1, 1) := by decide +kernel
theorem d63_9 : decode bM63 9 = .ok (.aload_n 0, 1) := by decide +kernel
theorem d63_10 : decode bM63 10 = .ok (.getfield 133, 3) := by decide +kernel
theorem d63_13 : decode bM63 13 = .ok (.if_icmp .ge 7, 3) := by decide +kernel
theorem d63_20 : decode bM63 20 = .ok (.aload_n 0, 1) := by decide +kernel
theorem d63_21 : decode bM63 21 = .ok (.getfield 133, 3) := by decide +kernel
theorem d63_24 : decode bM63 24 = .ok (.putfield 137, 3) := by decide +kernel
theorem d63_27 : decode bM63 27 = .ok (.return_, 1) := by decide +kernel
theorem d64_0 : decode bM64 0 = .ok (.aload_n 0, 1) := by decide +kernel
theorem d64_1 : decode bM64 1 = .ok (.iconst 0, 1) := by decide +kernel
theorem d64_2 : decode bM64 2 = .ok (.putfield 197, 3) := by decide +kernel
theorem d64_5 : decode bM64 5 = .ok (.aload_n 0, 1) := by decide +kernel
theorem d64_6 : decode bM64 6 = .ok (.iconst (-1), 1) := by decide +kernel
theorem d64_7 : decode bM64 7 = .ok (.putfield 137, 3) := by decide +kernel
theorem d64_10 : decode bM64 10 = .ok (.aload_n 0, 1) := by decide +kernel
theorem d64_11 : decode bM64 11 = .ok (.iconst 0, 1) := by decide +kernel
theorem d64_12 : decode bM64 12 = .ok (.putfield 152, 3) := by decide +kernel
theorem d64_15 : decode bM64 15 = .ok (.aload_n 0, 1) := by decide +kernel
theorem d64_16 : decode bM64 16 = .ok (.iconst 0, 1) := by decide +kernel
theorem d64_17 : decode bM64 17 = .ok (.putfield 161, 3) := by decide +kernel
theorem d64_20 : decode bM64 20 = .ok (.aload_n 0, 1) := by decide +kernel
theorem d64_21 : decode bM64 21 = .ok (.iconst (-1), 1) := by decide +kernel
theorem d64_22 : decode bM64 22 = .ok (.putfield 155, 3) := by decide +kernel
theorem d64_25 : decode bM64 25 = .ok (.aload_n 0, 1) := by decide +kernel
theorem d64_26 : decode bM64 26 = .ok (.iload_n 2, 1) := by decide +kernel
theorem d64_27 : decode bM64 27 = .ok (.putfield 204, 3) := by decide +kernel
theorem d64_30 : decode bM64 30 = .ok (.aload_n 0, 1) := by decide +kernel
theorem d64_31 : decode bM64 31 = .ok (.iconst 0, 1) := by decide +kernel
theorem d64_32 : decode bM64 32 = .ok (.putfield 158, 3) := by decide +kernel
theorem d64_35 : decode bM64 35 = .ok (.aload_n 0, 1) := by decide +kernel
theorem d64_36 : decode bM64 36 = .ok (.getfield 137, 3) := by decide +kernel
theorem d64_39 : decode bM64 39 = .ok (.ifCond .ge 207, 3) := by decide +kernel
theorem d64_42 : decode bM64 42 = .ok (.aload_n 0, 1) := by decide +kernel
theorem d64_43 : decode bM64 43 = .ok (.getfield 197, 3) := by decide +kernel
theorem d64_46 : decode bM64 46 = .ok (.aload_n 0, 1) := by decide +kernel
theorem d64_47 : decode bM64 47 = .ok (.getfield 133, 3) := by decide +kernel
theorem d64_50 : decode bM64 50 = .ok (.if_icmp .ge 196, 3) := by decide +kernel
theorem d64_246 : decode bM64 246 = .ok (.aload_n 0, 1) := by decide +kernel
theorem d64_247 : decode bM64 247 = .ok (.getfield 158, 3) := by decide +kernel
theorem d64_250 : decode bM64 250 = .ok (.ifCond .gt 10, 3) := by decide +kernel
theorem d64_253 : decode bM64 253 = .ok (.aload_n 0, 1) := by decide +kernel
theorem d64_254 : decode bM64 254 = .ok (.getfield 152, 3) := by decide +kernel
theorem d64_257 : decode bM64 257 = .ok (.ifCond .ne 11, 3) := by decide +kernel
theorem d64_260 : decode bM64 260 = .ok (.aload_n 0, 1) := by decide +kernel
theorem d64_261 : decode bM64 261 = .ok (.aload_n 0, 1) := by decide +kernel
theorem d64_262 : decode bM64 262 = .ok (.getfield 133, 3) := by decide +kernel
theorem d64_265 : decode bM64 265 = .ok (.invokevirtual 144, 3) := by decide +kernel
theorem d64_268 : decode bM64 268 = .ok (.return_, 1) := by decide +kernel
theorem d65_0 : decode bM65 0 = .ok (.aload_n 0, 1) := by decide +kernel
theorem d65_1 : decode bM65 1 = .ok (.iconst 1, 1) := by decide +kernel
theorem d65_2 : decode bM65 2 = .ok (.iconst 0, 1) := by decide +kernel
theorem d65_3 : decode bM65 3 = .ok (.invokevirtual 242, 3) := by decide +kernel
theorem d65_6 : decode bM65 6 = .ok (.aload_n 0, 1) := by decide +kernel
theorem d65_7 : decode bM65 7 = .ok (.getfield 137, 3) := by decide +kernel
theorem d65_10 : decode bM65 10 = .ok (.ifCond .lt 10, 3) := by decide +kernel
theorem d65_13 : decode bM65 13 = .ok (.iconst (-1), 1) := by decide +kernel
theorem d65_14 : decode bM65 14 = .ok (.aload_n 0, 1) := by decide +kernel
theorem d65_15 : decode bM65 15 = .ok (.getfield 137, 3) := by decide +kernel
theorem d65_18 : decode bM65 18 = .ok (.isub, 1) := by decide +kernel
theorem d65_19 : decode bM65 19 = .ok (.ireturn, 1) := by decide +kernel
theorem d66_0 : decode bM66 0 = .ok (.aload_n 0, 1) := by decide +kernel
theorem d66_1 : decode bM66 1 = .ok (.invokevirtual 253, 3) := by decide +kernel
theorem d66_4 : decode bM66 4 = .ok (.istore_n 1, 1) := by decide +kernel
theorem d66_5 : decode bM66 5 = .ok (.aload_n 0, 1) := by decide +kernel
theorem d66_6 : decode bM66 6 = .ok (.iconst 0, 1) := by decide +kernel
theorem d66_7 : decode bM66 7 = .ok (.putfield 133, 3) := by decide +kernel
theorem d66_10 : decode bM66 10 = .ok (.iload_n 1, 1) := by decide +kernel
theorem d66_11 : decode bM66 11 = .ok (.ireturn, 1) := by decide +kernel
theorem d67_0 : decode bM67 0 = .ok (.aload_n 0, 1) := by decide +kernel
theorem d67_1 : decode bM67 1 = .ok (.iload_n 1, 1) := by decide +kernel
theorem d67_2 : decode bM67 2 = .ok (.invokevirtual 275, 3) := by decide +kernel
theorem d67_5 : decode bM67 5 = .ok (.istore_n 3, 1) := by decide +kernel
theorem d67_6 : decode bM67 6 = .ok (.iload_n 3, 1) := by decide +kernel
theorem d67_7 : decode bM67 7 = .ok (.ifCond .ge 9, 3) := by decide +kernel
theorem d67_10 : decode bM67 10 = .ok (.sipush (-1000), 3) := by decide +kernel
theorem d67_13 : decode bM67 13 = .ok (.goto 9, 3) := by decide +kernel
theorem d67_22 : decode bM67 22 = .ok (.istore 4, 2) := by decide +kernel
theorem d67_24 : decode bM67 24 = .ok (.aload_n 0, 1) := by decide +kernel
theorem d67_25 : decode bM67 25 = .ok (.iconst 0, 1) := by decide +kernel
theorem d67_26 : decode bM67 26 = .ok (.putfield 133, 3) := by decide +kernel
theorem d67_29 : decode bM67 29 = .ok (.iload 4, 2) := by decide +kernel
theorem d67_31 : decode bM67 31 = .ok (.ireturn, 1) := by decide +kernel
theorem d68_0 : decode bM68 0 = .ok (.aload_n 0, 1) := by decide +kernel
theorem d68_1 : decode bM68 1 = .ok (.iload_n 1, 1) := by decide +kernel
theorem d68_2 : decode bM68 2 = .ok (.invokevirtual 275, 3) := by decide +kernel
theorem d68_5 : decode bM68 5 = .ok (.istore_n 2, 1) := by decide +kernel
theorem d68_6 : decode bM68 6 = .ok (.iload_n 2, 1) := by decide +kernel
theorem d68_7 : decode bM68 7 = .ok (.ifCond .lt 12, 3) := by decide +kernel
theorem d68_19 : decode bM68 19 = .ok (.iload_n 2, 1) := by decide +kernel
theorem d68_20 : decode bM68 20 = .ok (.ifCond .ge 9, 3) := by decide +kernel
theorem d68_23 : decode bM68 23 = .ok (.sipush (-1000), 3) := by decide +kernel
theorem d68_26 : decode bM68 26 = .ok (.goto 6, 3) := by decide +kernel
theorem d68_32 : decode bM68 32 = .ok (.ireturn, 1) := by decide +kernel
theorem d69_0 : decode bM69 0 = .ok (.aload_n 0, 1) := by decide +kernel
theorem d69_1 : decode bM69 1 = .ok (.iload_n 1, 1) := by decide +kernel
theorem d69_2 : decode bM69 2 = .ok (.invokevirtual 275, 3) := by decide +kernel
theorem d69_5 : decode bM69 5 = .ok (.istore_n 2, 1) := by decide +kernel
theorem d69_6 : decode bM69 6 = .ok (.iload_n 2, 1) := by decide +kernel
theorem d69_7 : decode bM69 7 = .ok (.ifCond .lt 23, 3) := by decide +kernel
theorem d69_30 : decode bM69 30 = .ok (.iconst 0, 1) := by decide +kernel
theorem d69_31 : decode bM69 31 = .ok (.istore_n 3, 1) := by decide +kernel
theorem d69_32 : decode bM69 32 = .ok (.iload_n 3, 1) := by decide +kernel
theorem d69_33 : decode bM69 33 = .ok (.ifCond .eq 31, 3) := by decide +kernel
theorem d69_64 : decode bM69 64 = .ok (.iconst 0, 1) := by decide +kernel
theorem d69_65 : decode bM69 65 = .ok (.istore 4, 2) := by decide +kernel
theorem d69_67 : decode bM69 67 = .ok (.iload 4, 2) := by decide +kernel
theorem d69_69 : decode bM69 69 = .ok (.aload_n 0, 1) := by decide +kernel
theorem d69_70 : decode bM69 70 = .ok (.getfield 133, 3) := by decide +kernel
theorem d69_73 : decode bM69 73 = .ok (.if_icmp .ge 64, 3) := by decide +kernel
theorem d69_137 : decode bM69 137 = .ok (.iconst 0, 1) := by decide +kernel
theorem d69_138 : decode bM69 138 = .ok (.istore 4, 2) := by decide +kernel
theorem d69_140 : decode bM69 140 = .ok (.iload 4, 2) := by decide +kernel
theorem d69_142 : decode bM69 142 = .ok (.aload_n 0, 1) := by decide +kernel
theorem d69_143 : decode bM69 143 = .ok (.getfield 133, 3) := by decide +kernel
theorem d69_146 : decode bM69 146 = .ok (.if_icmp .ge 29, 3) := by decide +kernel
theorem d69_175 : decode bM69 175 = .ok (.iload_n 3, 1) := by decide +kernel
theorem d69_176 : decode bM69 176 = .ok (.ifCond .eq 23, 3) := by decide +kernel
theorem d69_199 : decode bM69 199 = .ok (.aload_n 0, 1) := by decide +kernel
theorem d69_200 : decode bM69 200 = .ok (.iconst 0, 1) := by decide +kernel
theorem d69_201 : decode bM69 201 = .ok (.putfield 133, 3) := by decide +kernel
theorem d69_204 : decode bM69 204 = .ok (.iload_n 3, 1) := by decide +kernel
theorem d69_205 : decode bM69 205 = .ok (.ireturn, 1) := by decide +kernel
theorem d70_0 : decode bM70 0 = .ok (.aload_n 0, 1) := by decide +kernel
theorem d70_1 : decode bM70 1 = .ok (.iload_n 1, 1) := by decide +kernel
theorem d70_2 : decode bM70 2 = .ok (.invokevirtual 275, 3) := by decide +kernel
theorem d70_5 : decode bM70 5 = .ok (.istore_n 2, 1) := by decide +kernel
theorem d70_6 : decode bM70 6 = .ok (.iload_n 2, 1) := by decide +kernel
theorem d70_7 : decode bM70 7 = .ok (.ifCond .ge 9, 3) := by decide +kernel
theorem d70_10 : decode bM70 10 = .ok (.sipush (-1000), 3) := by decide +kernel
theorem d70_13 : decode bM70 13 = .ok (.goto 8, 3) := by decide +kernel
theorem d70_21 : decode bM70 21 = .ok (.istore_n 3, 1) := by decide +kernel
theorem d70_22 : decode bM70 22 = .ok (.aload_n 0, 1) := by decide +kernel
theorem d70_23 : decode bM70 23 = .ok (.iconst 0, 1) := by decide +kernel
theorem d70_24 : decode bM70 24 = .ok (.putfield 133, 3) := by decide +kernel
theorem d70_27 : decode bM70 27 = .ok (.iload_n 3, 1) := by decide +kernel
theorem d70_28 : decode bM70 28 = .ok (.ireturn, 1) := by decide +kernel
theorem d71_0 : decode bM71 0 = .ok (.aload_n 0, 1) := by decide +kernel
theorem d71_1 : decode bM71 1 = .ok (.iload_n 1, 1) := by decide +kernel
theorem d71_2 : decode bM71 2 = .ok (.invokevirtual 275, 3) := by decide +kernel
theorem d71_5 : decode bM71 5 = .ok (.istore_n 2, 1) := by decide +kernel
theorem d71_6 : decode bM71 6 = .ok (.iload_n 2, 1) := by decide +kernel
theorem d71_7 : decode bM71 7 = .ok (.ifCond .ge 9, 3) := by decide +kernel
theorem d71_10 : decode bM71 10 = .ok (.sipush (-1000), 3) := by decide +kernel
theorem d71_13 : decode bM71 13 = .ok (.goto 9, 3) := by decide +kernel
theorem d71_22 : decode bM71 22 = .ok (.ireturn, 1) := by decide +kernel
theorem d72_0 : decode bM72 0 = .ok (.aload_n 0, 1) := by decide +kernel
theorem d72_1 : decode bM72 1 = .ok (.iload_n 1, 1) := by decide +kernel
theorem d72_2 : decode bM72 2 = .ok (.invokevirtual 275, 3) := by decide +kernel
theorem d72_5 : decode bM72 5 = .ok (.istore_n 3, 1) := by decide +kernel
theorem d72_6 : decode bM72 6 = .ok (.iload_n 3, 1) := by decide +kernel
theorem d72_7 : decode bM72 7 = .ok (.ifCond .ge 7, 3) := by decide +kernel
theorem d72_10 : decode bM72 10 = .ok (.sipush (-1000), 3) := by decide +kernel
theorem d72_13 : decode bM72 13 = .ok (.ireturn, 1) := by decide +kernel
theorem d73_0 : decode bM73 0 = .ok (.aload_n 0, 1) := by decide +kernel
theorem d73_1 : decode bM73 1 = .ok (.iload_n 1, 1) := by decide +kernel
theorem d73_2 : decode bM73 2 = .ok (.invokevirtual 275, 3) := by decide +kernel
theorem d73_5 : decode bM73 5 = .ok (.istore_n 3, 1) := by decide +kernel
theorem d73_6 : decode bM73 6 = .ok (.iload_n 3, 1) := by decide +kernel
theorem d73_7 : decode bM73 7 = .ok (.ifCond .lt 17, 3) := by decide +kernel
theorem d73_24 : decode bM73 24 = .ok (.iconst 0, 1) := by decide +kernel
theorem d73_25 : decode bM73 25 = .ok (.goto 12, 3) := by decide +kernel
theorem d73_37 : decode bM73 37 = .ok (.ireturn, 1) := by decide +kernel
theorem d74_0 : decode bM74 0 = .ok (.aload_n 0, 1) := by decide +kernel
theorem d74_1 : decode bM74 1 = .ok (.iload_n 1, 1) := by decide +kernel
theorem d74_2 : decode bM74 2 = .ok (.invokevirtual 275, 3) := by decide +kernel
theorem d74_5 : decode bM74 5 = .ok (.istore_n 3, 1) := by decide +kernel
theorem d74_6 : decode bM74 6 = .ok (.iload_n 3, 1) := by decide +kernel
theorem d74_7 : decode bM74 7 = .ok (.ifCond .lt 17, 3) := by decide +kernel
theorem d74_24 : decode bM74 24 = .ok (.iconst 0, 1) := by decide +kernel
theorem d74_25 : decode bM74 25 = .ok (.goto 12, 3) := by decide +kernel
theorem d74_37 : decode bM74 37 = .ok (.ireturn, 1) := by decide +kernel
theorem d75_0 : decode bM75 0 = .ok (.iload_n 1, 1) := by decide +kernel
theorem d75_1 : decode bM75 1 = .ok (.ifCond .lt 20, 3) := by decide +kernel
theorem d75_4 : decode bM75 4 = .ok (.iload_n 1, 1) := by decide +kernel
theorem d75_5 : decode bM75 5 = .ok (.aload_n 0, 1) := by decide +kernel
theorem d75_6 : decode bM75 6 = .ok (.getfield 379, 3) := by decide +kernel
theorem d75_9 : decode bM75 9 = .ok (.if_icmp .ge 12, 3) := by decide +kernel
theorem d75_21 : decode bM75 21 = .ok (.sipush (-1000), 3) := by decide +kernel
theorem d75_24 : decode bM75 24 = .ok (.ireturn, 1) := by decide +kernel
theorem d76_0 : decode bM76 0 = .ok (.aload_n 0, 1) := by decide +kernel
theorem d76_1 : decode bM76 1 = .ok (.invokevirtual 115, 3) := by decide +kernel
theorem d76_4 : decode bM76 4 = .ok (.ifCond .ne 9, 3) := by decide +kernel
theorem d76_7 : decode bM76 7 = .ok (.sipush (-1000), 3) := by decide +kernel
theorem d76_10 : decode bM76 10 = .ok (.goto 15, 3) := by decide +kernel
theorem d76_25 : decode bM76 25 = .ok (.ireturn, 1) := by decide +kernel
theorem d77_0 : decode bM77 0 = .ok (.aload_n 0, 1) := by decide +kernel
theorem d77_1 : decode bM77 1 = .ok (.invokevirtual 115, 3) := by decide +kernel
theorem d77_4 : decode bM77 4 = .ok (.ireturn, 1) := by decide +kernel
theorem d78_0 : decode bM78 0 = .ok (.aload_n 0, 1) := by decide +kernel
theorem d78_1 : decode bM78 1 = .ok (.iload_n 1, 1) := by decide +kernel
theorem d78_2 : decode bM78 2 = .ok (.putfield 391, 3) := by decide +kernel
theorem d78_5 : decode bM78 5 = .ok (.aload_n 0, 1) := by decide +kernel
theorem d78_6 : decode bM78 6 = .ok (.iconst 0, 1) := by decide +kernel
theorem d78_7 : decode bM78 7 = .ok (.putfield 388, 3) := by decide +kernel
theorem d78_10 : decode bM78 10 = .ok (.aload_n 0, 1) := by decide +kernel
theorem d78_11 : decode bM78 11 = .ok (.iconst 0, 1) := by decide +kernel
theorem d78_12 : decode bM78 12 = .ok (.putfield 394, 3) := by decide +kernel
theorem d78_15 : decode bM78 15 = .ok (.iconst 0, 1) := by decide +kernel
theorem d78_16 : decode bM78 16 = .ok (.istore_n 2, 1) := by decide +kernel
theorem d78_17 : decode bM78 17 = .ok (.iload_n 2, 1) := by decide +kernel
theorem d78_18 : decode bM78 18 = .ok (.aload_n 0, 1) := by decide +kernel
theorem d78_19 : decode bM78 19 = .ok (.invokevirtual 115, 3) := by decide +kernel
theorem d78_22 : decode bM78 22 = .ok (.if_icmp .ge 197, 3) := by decide +kernel
theorem d78_219 : decode bM78 219 = .ok (.return_, 1) := by decide +kernel
theorem d79_0 : decode bM79 0 = .ok (.aload_n 0, 1) := by decide +kernel
theorem d79_1 : decode bM79 1 = .ok (.iconst (-1), 1) := by decide +kernel
theorem d79_2 : decode bM79 2 = .ok (.invokevirtual 417, 3) := by decide +kernel
theorem d79_5 : decode bM79 5 = .ok (.aload_n 0, 1) := by decide +kernel
theorem d79_6 : decode bM79 6 = .ok (.getfield 388, 3) := by decide +kernel
theorem d79_9 : decode bM79 9 = .ok (.ireturn, 1) := by decide +kernel
theorem d80_0 : decode bM80 0 = .ok (.aload_n 0, 1) := by decide +kernel
theorem d80_1 : decode bM80 1 = .ok (.iload_n 1, 1) := by decide +kernel
theorem d80_2 : decode bM80 2 = .ok (.invokevirtual 417, 3) := by decide +kernel
theorem d80_5 : decode bM80 5 = .ok (.aload_n 0, 1) := by decide +kernel
theorem d80_6 : decode bM80 6 = .ok (.getfield 394, 3) := by decide +kernel
theorem d80_9 : decode bM80 9 = .ok (.ireturn, 1) := by decide +kernel
theorem d81_0 : decode bM81 0 = .ok (.iconst 0, 1) := by decide +kernel
theorem d81_1 : decode bM81 1 = .ok (.istore_n 1, 1) := by decide +kernel
theorem d81_2 : decode bM81 2 = .ok (.iload_n 1, 1) := by decide +kernel
theorem d81_3 : decode bM81 3 = .ok (.sipush 5161, 3) := by decide +kernel
theorem d81_6 : decode bM81 6 = .ok (.if_icmp .ge 21, 3) := by decide +kernel
theorem d81_9 : decode bM81 9 = .ok (.aload_n 0, 1) := by decide +kernel
theorem d81_10 : decode bM81 10 = .ok (.getfield 13, 3) := by decide +kernel
theorem d81_13 : decode bM81 13 = .ok (.iload_n 1, 1) := by decide +kernel
theorem d81_14 : decode bM81 14 = .ok (.aload_n 0, 1) := by decide +kernel
theorem d81_15 : decode bM81 15 = .ok (.getfield 7, 3) := by decide +kernel
theorem d81_18 : decode bM81 18 = .ok (.iload_n 1, 1) := by decide +kernel
theorem d81_19 : decode bM81 19 = .ok (.iaload, 1) := by decide +kernel
theorem d81_20 : decode bM81 20 = .ok (.iastore, 1) := by decide +kernel
theorem d81_21 : decode bM81 21 = .ok (.iinc 1 1, 3) := by decide +kernel
theorem d81_24 : decode bM81 24 = .ok (.goto (-22), 3) := by decide +kernel
theorem d81_27 : decode bM81 27 = .ok (.aload_n 0, 1) := by decide +kernel
theorem d81_28 : decode bM81 28 = .ok (.iconst 0, 1) := by decide +kernel
theorem d81_29 : decode bM81 29 = .ok (.putfield 239, 3) := by decide +kernel
theorem d81_32 : decode bM81 32 = .ok (.return_, 1) := by decide +kernel
theorem d82_0 : decode bM82 0 = .ok (.aload_n 0, 1) := by decide +kernel
theorem d82_1 : decode bM82 1 = .ok (.getfield 239, 3) := by decide +kernel
theorem d82_4 : decode bM82 4 = .ok (.istore_n 1, 1) := by decide +kernel
theorem d82_5 : decode bM82 5 = .ok (.aload_n 0, 1) := by decide +kernel
theorem d82_6 : decode bM82 6 = .ok (.invokevirtual 250, 3) := by decide +kernel
theorem d82_9 : decode bM82 9 = .ok (.iload_n 1, 1) := by decide +kernel
theorem d82_10 : decode bM82 10 = .ok (.ireturn, 1) := by decide +kernel
theorem d83_0 : decode bM83 0 = .ok (.aload_n 0, 1) := by decide +kernel
theorem d83_1 : decode bM83 1 = .ok (.getfield 239, 3) := by decide +kernel
theorem d83_4 : decode bM83 4 = .ok (.istore_n 1, 1) := by decide +kernel
theorem d83_5 : decode bM83 5 = .ok (.iconst 0, 1) := by decide +kernel
theorem d83_6 : decode bM83 6 = .ok (.istore_n 2, 1) := by decide +kernel
theorem d83_7 : decode bM83 7 = .ok (.iload_n 2, 1) := by decide +kernel
theorem d83_8 : decode bM83 8 = .ok (.sipush 5161, 3) := by decide +kernel
theorem d83_11 : decode bM83 11 = .ok (.if_icmp .ge 21, 3) := by decide +kernel
theorem d83_14 : decode bM83 14 = .ok (.aload_n 0, 1) := by decide +kernel
theorem d83_15 : decode bM83 15 = .ok (.getfield 7, 3) := by decide +kernel
theorem d83_18 : decode bM83 18 = .ok (.iload_n 2, 1) := by decide +kernel
theorem d83_19 : decode bM83 19 = .ok (.aload_n 0, 1) := by decide +kernel
theorem d83_20 : decode bM83 20 = .ok (.getfield 13, 3) := by decide +kernel
theorem d83_23 : decode bM83 23 = .ok (.iload_n 2, 1) := by decide +kernel
theorem d83_24 : decode bM83 24 = .ok (.iaload, 1) := by decide +kernel
theorem d83_25 : decode bM83 25 = .ok (.iastore, 1) := by decide +kernel
theorem d83_26 : decode bM83 26 = .ok (.iinc 2 1, 3) := by decide +kernel
theorem d83_29 : decode bM83 29 = .ok (.goto (-22), 3) := by decide +kernel
theorem d83_32 : decode bM83 32 = .ok (.aload_n 0, 1) := by decide +kernel
theorem d83_33 : decode bM83 33 = .ok (.iconst 0, 1) := by decide +kernel
theorem d83_34 : decode bM83 34 = .ok (.putfield 239, 3) := by decide +kernel
theorem d83_37 : decode bM83 37 = .ok (.aload_n 0, 1) := by decide +kernel
theorem d83_38 : decode bM83 38 = .ok (.iconst 0, 1) := by decide +kernel
theorem d83_39 : decode bM83 39 = .ok (.putfield 133, 3) := by decide +kernel
theorem d83_42 : decode bM83 42 = .ok (.iload_n 1, 1) := by decide +kernel
theorem d83_43 : decode bM83 43 = .ok (.ireturn, 1) := by decide +kernel
theorem d84_0 : decode code 0 = .ok (.new 7, 3) := by decide +kernel
theorem d84_3 : decode code 3 = .ok (.dup, 1) := by decide +kernel
theorem d84_4 : decode code 4 = .ok (.invokespecial 9, 3) := by decide +kernel
theorem d84_7 : decode code 7 = .ok (.astore_n 1, 1) := by decide +kernel
theorem d84_8 : decode code 8 = .ok (.new 10, 3) := by decide +kernel
theorem d84_11 : decode code 11 = .ok (.dup, 1) := by decide +kernel
theorem d84_12 : decode code 12 = .ok (.invokespecial 12, 3) := by decide +kernel
theorem d84_15 : decode code 15 = .ok (.astore_n 2, 1) := by decide +kernel
theorem d84_16 : decode code 16 = .ok (.iconst 0, 1) := by decide +kernel
theorem d84_17 : decode code 17 = .ok (.istore_n 3, 1) := by decide +kernel
theorem d84_18 : decode code 18 = .ok (.iload_n 3, 1) := by decide +kernel
theorem d84_19 : decode code 19 = .ok (.aload_n 0, 1) := by decide +kernel
theorem d84_20 : decode code 20 = .ok (.arraylength, 1) := by decide +kernel
theorem d84_21 : decode code 21 = .ok (.iconst 3, 1) := by decide +kernel
theorem d84_22 : decode code 22 = .ok (.isub, 1) := by decide +kernel
theorem d84_23 : decode code 23 = .ok (.if_icmp .gt 472, 3) := by decide +kernel
theorem d84_26 : decode code 26 = .ok (.aload_n 0, 1) := by decide +kernel
theorem d84_27 : decode code 27 = .ok (.iload_n 3, 1) := by decide +kernel
theorem d84_28 : decode code 28 = .ok (.iaload, 1) := by decide +kernel
theorem d84_29 : decode code 29 = .ok (.bipush 31, 2) := by decide +kernel
theorem d84_31 : decode code 31 = .ok (.iand, 1) := by decide +kernel
theorem d84_32 : decode code 32 = .ok (.tableswitch 457 0 16 #[84, 109, 122, 155, 178, 201, 224, 247, 260, 273, 296, 329, 362, 395, 408, 421, 434], 84) := by decide +kernel
theorem d84_116 : decode code 116 = .ok (.aload_n 1, 1) := by decide +kernel
theorem d84_117 : decode code 117 = .ok (.aload_n 0, 1) := by decide +kernel
theorem d84_118 : decode code 118 = .ok (.iload_n 3, 1) := by decide +kernel
theorem d84_119 : decode code 119 = .ok (.iconst 1, 1) := by decide +kernel
theorem d84_120 : decode code 120 = .ok (.iadd, 1) := by decide +kernel
theorem d84_121 : decode code 121 = .ok (.iaload, 1) := by decide +kernel
theorem d84_122 : decode code 122 = .ok (.i2c, 1) := by decide +kernel
theorem d84_123 : decode code 123 = .ok (.invokevirtual 13, 3) := by decide +kernel
theorem d84_126 : decode code 126 = .ok (.aload_n 2, 1) := by decide +kernel
theorem d84_127 : decode code 127 = .ok (.aload_n 0, 1) := by decide +kernel
theorem d84_128 : decode code 128 = .ok (.iload_n 3, 1) := by decide +kernel
theorem d84_129 : decode code 129 = .ok (.iconst 1, 1) := by decide +kernel
theorem d84_130 : decode code 130 = .ok (.iadd, 1) := by decide +kernel
theorem d84_131 : decode code 131 = .ok (.iaload, 1) := by decide +kernel
theorem d84_132 : decode code 132 = .ok (.i2c, 1) := by decide +kernel
theorem d84_133 : decode code 133 = .ok (.invokevirtual 17, 3) := by decide +kernel
theorem d84_136 : decode code 136 = .ok (.if_icmp .eq 353, 3) := by decide +kernel
theorem d84_141 : decode code 141 = .ok (.aload_n 1, 1) := by decide +kernel
theorem d84_142 : decode code 142 = .ok (.invokevirtual 18, 3) := by decide +kernel
theorem d84_145 : decode code 145 = .ok (.aload_n 2, 1) := by decide +kernel
theorem d84_146 : decode code 146 = .ok (.invokevirtual 22, 3) := by decide +kernel
theorem d84_149 : decode code 149 = .ok (.if_icmp .eq 340, 3) := by decide +kernel
theorem d84_154 : decode code 154 = .ok (.aload_n 1, 1) := by decide +kernel
theorem d84_155 : decode code 155 = .ok (.aload_n 0, 1) := by decide +kernel
theorem d84_156 : decode code 156 = .ok (.iload_n 3, 1) := by decide +kernel
theorem d84_157 : decode code 157 = .ok (.iconst 1, 1) := by decide +kernel
theorem d84_158 : decode code 158 = .ok (.iadd, 1) := by decide +kernel
theorem d84_159 : decode code 159 = .ok (.iaload, 1) := by decide +kernel
theorem d84_160 : decode code 160 = .ok (.aload_n 0, 1) := by decide +kernel
theorem d84_161 : decode code 161 = .ok (.iload_n 3, 1) := by decide +kernel
theorem d84_162 : decode code 162 = .ok (.iconst 2, 1) := by decide +kernel
theorem d84_163 : decode code 163 = .ok (.iadd, 1) := by decide +kernel
theorem d84_164 : decode code 164 = .ok (.iaload, 1) := by decide +kernel
theorem d84_165 : decode code 165 = .ok (.invokevirtual 23, 3) := by decide +kernel
theorem d84_168 : decode code 168 = .ok (.aload_n 2, 1) := by decide +kernel
theorem d84_169 : decode code 169 = .ok (.aload_n 0, 1) := by decide +kernel
theorem d84_170 : decode code 170 = .ok (.iload_n 3, 1) := by decide +kernel
theorem d84_171 : decode code 171 = .ok (.iconst 1, 1) := by decide +kernel
theorem d84_172 : decode code 172 = .ok (.iadd, 1) := by decide +kernel
theorem d84_173 : decode code 173 = .ok (.iaload, 1) := by decide +kernel
theorem d84_174 : decode code 174 = .ok (.aload_n 0, 1) := by decide +kernel
theorem d84_175 : decode code 175 = .ok (.iload_n 3, 1) := by decide +kernel
theorem d84_176 : decode code 176 = .ok (.iconst 2, 1) := by decide +kernel
theorem d84_177 : decode code 177 = .ok (.iadd, 1) := by decide +kernel
theorem d84_178 : decode code 178 = .ok (.iaload, 1) := by decide +kernel
theorem d84_179 : decode code 179 = .ok (.invokevirtual 27, 3) := by decide +kernel
theorem d84_182 : decode code 182 = .ok (.if_icmp .eq 307, 3) := by decide +kernel
theorem d84_187 : decode code 187 = .ok (.aload_n 1, 1) := by decide +kernel
theorem d84_188 : decode code 188 = .ok (.aload_n 0, 1) := by decide +kernel
theorem d84_189 : decode code 189 = .ok (.iload_n 3, 1) := by decide +kernel
theorem d84_190 : decode code 190 = .ok (.iconst 1, 1) := by decide +kernel
theorem d84_191 : decode code 191 = .ok (.iadd, 1) := by decide +kernel
theorem d84_192 : decode code 192 = .ok (.iaload, 1) := by decide +kernel
theorem d84_193 : decode code 193 = .ok (.invokevirtual 28, 3) := by decide +kernel
theorem d84_196 : decode code 196 = .ok (.aload_n 2, 1) := by decide +kernel
theorem d84_197 : decode code 197 = .ok (.aload_n 0, 1) := by decide +kernel
theorem d84_198 : decode code 198 = .ok (.iload_n 3, 1) := by decide +kernel
theorem d84_199 : decode code 199 = .ok (.iconst 1, 1) := by decide +kernel
theorem d84_200 : decode code 200 = .ok (.iadd, 1) := by decide +kernel
theorem d84_201 : decode code 201 = .ok (.iaload, 1) := by decide +kernel
theorem d84_202 : decode code 202 = .ok (.invokevirtual 32, 3) := by decide +kernel
theorem d84_205 : decode code 205 = .ok (.if_icmp .eq 284, 3) := by decide +kernel
theorem d84_210 : decode code 210 = .ok (.aload_n 1, 1) := by decide +kernel
theorem d84_211 : decode code 211 = .ok (.aload_n 0, 1) := by decide +kernel
theorem d84_212 : decode code 212 = .ok (.iload_n 3, 1) := by decide +kernel
theorem d84_213 : decode code 213 = .ok (.iconst 1, 1) := by decide +kernel
theorem d84_214 : decode code 214 = .ok (.iadd, 1) := by decide +kernel
theorem d84_215 : decode code 215 = .ok (.iaload, 1) := by decide +kernel
theorem d84_216 : decode code 216 = .ok (.invokevirtual 33, 3) := by decide +kernel
theorem d84_219 : decode code 219 = .ok (.aload_n 2, 1) := by decide +kernel
theorem d84_220 : decode code 220 = .ok (.aload_n 0, 1) := by decide +kernel
theorem d84_221 : decode code 221 = .ok (.iload_n 3, 1) := by decide +kernel
theorem d84_222 : decode code 222 = .ok (.iconst 1, 1) := by decide +kernel
theorem d84_223 : decode code 223 = .ok (.iadd, 1) := by decide +kernel
theorem d84_224 : decode code 224 = .ok (.iaload, 1) := by decide +kernel
theorem d84_225 : decode code 225 = .ok (.invokevirtual 37, 3) := by decide +kernel
theorem d84_228 : decode code 228 = .ok (.if_icmp .eq 261, 3) := by decide +kernel
theorem d84_233 : decode code 233 = .ok (.aload_n 1, 1) := by decide +kernel
theorem d84_234 : decode code 234 = .ok (.aload_n 0, 1) := by decide +kernel
theorem d84_235 : decode code 235 = .ok (.iload_n 3, 1) := by decide +kernel
theorem d84_236 : decode code 236 = .ok (.iconst 1, 1) := by decide +kernel
theorem d84_237 : decode code 237 = .ok (.iadd, 1) := by decide +kernel
theorem d84_238 : decode code 238 = .ok (.iaload, 1) := by decide +kernel
theorem d84_239 : decode code 239 = .ok (.invokevirtual 38, 3) := by decide +kernel
theorem d84_242 : decode code 242 = .ok (.aload_n 2, 1) := by decide +kernel
theorem d84_243 : decode code 243 = .ok (.aload_n 0, 1) := by decide +kernel
theorem d84_244 : decode code 244 = .ok (.iload_n 3, 1) := by decide +kernel
theorem d84_245 : decode code 245 = .ok (.iconst 1, 1) := by decide +kernel
theorem d84_246 : decode code 246 = .ok (.iadd, 1) := by decide +kernel
theorem d84_247 : decode code 247 = .ok (.iaload, 1) := by decide +kernel
theorem d84_248 : decode code 248 = .ok (.invokevirtual 41, 3) := by decide +kernel
theorem d84_251 : decode code 251 = .ok (.if_icmp .eq 238, 3) := by decide +kernel
theorem d84_256 : decode code 256 = .ok (.aload_n 1, 1) := by decide +kernel
theorem d84_257 : decode code 257 = .ok (.aload_n 0, 1) := by decide +kernel
theorem d84_258 : decode code 258 = .ok (.iload_n 3, 1) := by decide +kernel
theorem d84_259 : decode code 259 = .ok (.iconst 1, 1) := by decide +kernel
theorem d84_260 : decode code 260 = .ok (.iadd, 1) := by decide +kernel
theorem d84_261 : decode code 261 = .ok (.iaload, 1) := by decide +kernel
theorem d84_262 : decode code 262 = .ok (.invokevirtual 42, 3) := by decide +kernel
theorem d84_265 : decode code 265 = .ok (.aload_n 2, 1) := by decide +kernel
theorem d84_266 : decode code 266 = .ok (.aload_n 0, 1) := by decide +kernel
theorem d84_267 : decode code 267 = .ok (.iload_n 3, 1) := by decide +kernel
theorem d84_268 : decode code 268 = .ok (.iconst 1, 1) := by decide +kernel
theorem d84_269 : decode code 269 = .ok (.iadd, 1) := by decide +kernel
theorem d84_270 : decode code 270 = .ok (.iaload, 1) := by decide +kernel
theorem d84_271 : decode code 271 = .ok (.invokevirtual 45, 3) := by decide +kernel
theorem d84_274 : decode code 274 = .ok (.if_icmp .eq 215, 3) := by decide +kernel
theorem d84_279 : decode code 279 = .ok (.aload_n 1, 1) := by decide +kernel
theorem d84_280 : decode code 280 = .ok (.invokevirtual 46, 3) := by decide +kernel
theorem d84_283 : decode code 283 = .ok (.aload_n 2, 1) := by decide +kernel
theorem d84_284 : decode code 284 = .ok (.invokevirtual 49, 3) := by decide +kernel
theorem d84_287 : decode code 287 = .ok (.if_icmp .eq 202, 3) := by decide +kernel
theorem d84_292 : decode code 292 = .ok (.aload_n 1, 1) := by decide +kernel
theorem d84_293 : decode code 293 = .ok (.invokevirtual 50, 3) := by decide +kernel
theorem d84_296 : decode code 296 = .ok (.aload_n 2, 1) := by decide +kernel
theorem d84_297 : decode code 297 = .ok (.invokevirtual 53, 3) := by decide +kernel
theorem d84_300 : decode code 300 = .ok (.if_icmp .eq 189, 3) := by decide +kernel
theorem d84_305 : decode code 305 = .ok (.aload_n 1, 1) := by decide +kernel
theorem d84_306 : decode code 306 = .ok (.aload_n 0, 1) := by decide +kernel
theorem d84_307 : decode code 307 = .ok (.iload_n 3, 1) := by decide +kernel
theorem d84_308 : decode code 308 = .ok (.iconst 1, 1) := by decide +kernel
theorem d84_309 : decode code 309 = .ok (.iadd, 1) := by decide +kernel
theorem d84_310 : decode code 310 = .ok (.iaload, 1) := by decide +kernel
theorem d84_311 : decode code 311 = .ok (.invokevirtual 54, 3) := by decide +kernel
theorem d84_314 : decode code 314 = .ok (.aload_n 2, 1) := by decide +kernel
theorem d84_315 : decode code 315 = .ok (.aload_n 0, 1) := by decide +kernel
theorem d84_316 : decode code 316 = .ok (.iload_n 3, 1) := by decide +kernel
theorem d84_317 : decode code 317 = .ok (.iconst 1, 1) := by decide +kernel
theorem d84_318 : decode code 318 = .ok (.iadd, 1) := by decide +kernel
theorem d84_319 : decode code 319 = .ok (.iaload, 1) := by decide +kernel
theorem d84_320 : decode code 320 = .ok (.invokevirtual 57, 3) := by decide +kernel
theorem d84_323 : decode code 323 = .ok (.if_icmp .eq 166, 3) := by decide +kernel
theorem d84_328 : decode code 328 = .ok (.aload_n 1, 1) := by decide +kernel
theorem d84_329 : decode code 329 = .ok (.aload_n 0, 1) := by decide +kernel
theorem d84_330 : decode code 330 = .ok (.iload_n 3, 1) := by decide +kernel
theorem d84_331 : decode code 331 = .ok (.iconst 1, 1) := by decide +kernel
theorem d84_332 : decode code 332 = .ok (.iadd, 1) := by decide +kernel
theorem d84_333 : decode code 333 = .ok (.iaload, 1) := by decide +kernel
theorem d84_334 : decode code 334 = .ok (.aload_n 0, 1) := by decide +kernel
theorem d84_335 : decode code 335 = .ok (.iload_n 3, 1) := by decide +kernel
theorem d84_336 : decode code 336 = .ok (.iconst 2, 1) := by decide +kernel
theorem d84_337 : decode code 337 = .ok (.iadd, 1) := by decide +kernel
theorem d84_338 : decode code 338 = .ok (.iaload, 1) := by decide +kernel
theorem d84_339 : decode code 339 = .ok (.invokevirtual 58, 3) := by decide +kernel
theorem d84_342 : decode code 342 = .ok (.aload_n 2, 1) := by decide +kernel
theorem d84_343 : decode code 343 = .ok (.aload_n 0, 1) := by decide +kernel
theorem d84_344 : decode code 344 = .ok (.iload_n 3, 1) := by decide +kernel
theorem d84_345 : decode code 345 = .ok (.iconst 1, 1) := by decide +kernel
theorem d84_346 : decode code 346 = .ok (.iadd, 1) := by decide +kernel
theorem d84_347 : decode code 347 = .ok (.iaload, 1) := by decide +kernel
theorem d84_348 : decode code 348 = .ok (.aload_n 0, 1) := by decide +kernel
theorem d84_349 : decode code 349 = .ok (.iload_n 3, 1) := by decide +kernel
theorem d84_350 : decode code 350 = .ok (.iconst 2, 1) := by decide +kernel
theorem d84_351 : decode code 351 = .ok (.iadd, 1) := by decide +kernel
theorem d84_352 : decode code 352 = .ok (.iaload, 1) := by decide +kernel
theorem d84_353 : decode code 353 = .ok (.invokevirtual 61, 3) := by decide +kernel
theorem d84_356 : decode code 356 = .ok (.if_icmp .eq 133, 3) := by decide +kernel
theorem d84_361 : decode code 361 = .ok (.aload_n 1, 1) := by decide +kernel
theorem d84_362 : decode code 362 = .ok (.aload_n 0, 1) := by decide +kernel
theorem d84_363 : decode code 363 = .ok (.iload_n 3, 1) := by decide +kernel
theorem d84_364 : decode code 364 = .ok (.iconst 1, 1) := by decide +kernel
theorem d84_365 : decode code 365 = .ok (.iadd, 1) := by decide +kernel
theorem d84_366 : decode code 366 = .ok (.iaload, 1) := by decide +kernel
theorem d84_367 : decode code 367 = .ok (.aload_n 0, 1) := by decide +kernel
theorem d84_368 : decode code 368 = .ok (.iload_n 3, 1) := by decide +kernel
theorem d84_369 : decode code 369 = .ok (.iconst 2, 1) := by decide +kernel
theorem d84_370 : decode code 370 = .ok (.iadd, 1) := by decide +kernel
theorem d84_371 : decode code 371 = .ok (.iaload, 1) := by decide +kernel
theorem d84_372 : decode code 372 = .ok (.invokevirtual 62, 3) := by decide +kernel
theorem d84_375 : decode code 375 = .ok (.aload_n 2, 1) := by decide +kernel
theorem d84_376 : decode code 376 = .ok (.aload_n 0, 1) := by decide +kernel
theorem d84_377 : decode code 377 = .ok (.iload_n 3, 1) := by decide +kernel
theorem d84_378 : decode code 378 = .ok (.iconst 1, 1) := by decide +kernel
theorem d84_379 : decode code 379 = .ok (.iadd, 1) := by decide +kernel
theorem d84_380 : decode code 380 = .ok (.iaload, 1) := by decide +kernel
theorem d84_381 : decode code 381 = .ok (.aload_n 0, 1) := by decide +kernel
theorem d84_382 : decode code 382 = .ok (.iload_n 3, 1) := by decide +kernel
theorem d84_383 : decode code 383 = .ok (.iconst 2, 1) := by decide +kernel
theorem d84_384 : decode code 384 = .ok (.iadd, 1) := by decide +kernel
theorem d84_385 : decode code 385 = .ok (.iaload, 1) := by decide +kernel
theorem d84_386 : decode code 386 = .ok (.invokevirtual 65, 3) := by decide +kernel
theorem d84_389 : decode code 389 = .ok (.if_icmp .eq 100, 3) := by decide +kernel
theorem d84_394 : decode code 394 = .ok (.aload_n 1, 1) := by decide +kernel
theorem d84_395 : decode code 395 = .ok (.aload_n 0, 1) := by decide +kernel
theorem d84_396 : decode code 396 = .ok (.iload_n 3, 1) := by decide +kernel
theorem d84_397 : decode code 397 = .ok (.iconst 1, 1) := by decide +kernel
theorem d84_398 : decode code 398 = .ok (.iadd, 1) := by decide +kernel
theorem d84_399 : decode code 399 = .ok (.iaload, 1) := by decide +kernel
theorem d84_400 : decode code 400 = .ok (.aload_n 0, 1) := by decide +kernel
theorem d84_401 : decode code 401 = .ok (.iload_n 3, 1) := by decide +kernel
theorem d84_402 : decode code 402 = .ok (.iconst 2, 1) := by decide +kernel
theorem d84_403 : decode code 403 = .ok (.iadd, 1) := by decide +kernel
theorem d84_404 : decode code 404 = .ok (.iaload, 1) := by decide +kernel
theorem d84_405 : decode code 405 = .ok (.invokevirtual 66, 3) := by decide +kernel
theorem d84_408 : decode code 408 = .ok (.aload_n 2, 1) := by decide +kernel
theorem d84_409 : decode code 409 = .ok (.aload_n 0, 1) := by decide +kernel
theorem d84_410 : decode code 410 = .ok (.iload_n 3, 1) := by decide +kernel
theorem d84_411 : decode code 411 = .ok (.iconst 1, 1) := by decide +kernel
theorem d84_412 : decode code 412 = .ok (.iadd, 1) := by decide +kernel
theorem d84_413 : decode code 413 = .ok (.iaload, 1) := by decide +kernel
theorem d84_414 : decode code 414 = .ok (.aload_n 0, 1) := by decide +kernel
theorem d84_415 : decode code 415 = .ok (.iload_n 3, 1) := by decide +kernel
theorem d84_416 : decode code 416 = .ok (.iconst 2, 1) := by decide +kernel
theorem d84_417 : decode code 417 = .ok (.iadd, 1) := by decide +kernel
theorem d84_418 : decode code 418 = .ok (.iaload, 1) := by decide +kernel
theorem d84_419 : decode code 419 = .ok (.invokevirtual 69, 3) := by decide +kernel
theorem d84_422 : decode code 422 = .ok (.if_icmp .eq 67, 3) := by decide +kernel
theorem d84_427 : decode code 427 = .ok (.aload_n 1, 1) := by decide +kernel
theorem d84_428 : decode code 428 = .ok (.invokevirtual 70, 3) := by decide +kernel
theorem d84_431 : decode code 431 = .ok (.aload_n 2, 1) := by decide +kernel
theorem d84_432 : decode code 432 = .ok (.invokevirtual 73, 3) := by decide +kernel
theorem d84_435 : decode code 435 = .ok (.if_icmp .eq 54, 3) := by decide +kernel
theorem d84_440 : decode code 440 = .ok (.aload_n 1, 1) := by decide +kernel
theorem d84_441 : decode code 441 = .ok (.invokevirtual 74, 3) := by decide +kernel
theorem d84_444 : decode code 444 = .ok (.aload_n 2, 1) := by decide +kernel
theorem d84_445 : decode code 445 = .ok (.invokevirtual 77, 3) := by decide +kernel
theorem d84_448 : decode code 448 = .ok (.if_icmp .eq 41, 3) := by decide +kernel
theorem d84_453 : decode code 453 = .ok (.aload_n 1, 1) := by decide +kernel
theorem d84_454 : decode code 454 = .ok (.invokevirtual 78, 3) := by decide +kernel
theorem d84_457 : decode code 457 = .ok (.aload_n 2, 1) := by decide +kernel
theorem d84_458 : decode code 458 = .ok (.invokevirtual 81, 3) := by decide +kernel
theorem d84_461 : decode code 461 = .ok (.if_icmp .eq 28, 3) := by decide +kernel
theorem d84_466 : decode code 466 = .ok (.aload_n 1, 1) := by decide +kernel
theorem d84_467 : decode code 467 = .ok (.aload_n 0, 1) := by decide +kernel
theorem d84_468 : decode code 468 = .ok (.iload_n 3, 1) := by decide +kernel
theorem d84_469 : decode code 469 = .ok (.iconst 1, 1) := by decide +kernel
theorem d84_470 : decode code 470 = .ok (.iadd, 1) := by decide +kernel
theorem d84_471 : decode code 471 = .ok (.iaload, 1) := by decide +kernel
theorem d84_472 : decode code 472 = .ok (.invokevirtual 82, 3) := by decide +kernel
theorem d84_475 : decode code 475 = .ok (.aload_n 2, 1) := by decide +kernel
theorem d84_476 : decode code 476 = .ok (.aload_n 0, 1) := by decide +kernel
theorem d84_477 : decode code 477 = .ok (.iload_n 3, 1) := by decide +kernel
theorem d84_478 : decode code 478 = .ok (.iconst 1, 1) := by decide +kernel
theorem d84_479 : decode code 479 = .ok (.iadd, 1) := by decide +kernel
theorem d84_480 : decode code 480 = .ok (.iaload, 1) := by decide +kernel
theorem d84_481 : decode code 481 = .ok (.invokevirtual 85, 3) := by decide +kernel
theorem d84_484 : decode code 484 = .ok (.if_icmp .eq 5, 3) := by decide +kernel
theorem d84_489 : decode code 489 = .ok (.iinc 3 3, 3) := by decide +kernel
theorem d84_492 : decode code 492 = .ok (.goto (-474), 3) := by decide +kernel
theorem d84_495 : decode code 495 = .ok (.iconst 1, 1) := by decide +kernel
theorem d84_496 : decode code 496 = .ok (.ireturn, 1) := by decide +kernel
