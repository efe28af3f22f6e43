theorem dX0_limited_0 : decode cX0_limited 0 = .ok (.lload_n 0, 1) := by decide +kernel
theorem dX0_limited_1 : decode cX0_limited 1 = .ok (.ldc2_w 9, 3) := by decide +kernel
theorem dX0_limited_4 : decode cX0_limited 4 = .ok (.lcmp, 1) := by decide +kernel
theorem dX0_limited_5 : decode cX0_limited 5 = .ok (.ifCond .lt 11, 3) := by decide +kernel
theorem dX0_limited_8 : decode cX0_limited 8 = .ok (.lload_n 0, 1) := by decide +kernel
theorem dX0_limited_9 : decode cX0_limited 9 = .ok (.ldc2_w 11, 3) := by decide +kernel
theorem dX0_limited_12 : decode cX0_limited 12 = .ok (.lcmp, 1) := by decide +kernel
theorem dX0_limited_13 : decode cX0_limited 13 = .ok (.ifCond .le 9, 3) := by decide +kernel
theorem dX0_limited_16 : decode cX0_limited 16 = .ok (.ldc2_w 13, 3) := by decide +kernel
theorem dX0_limited_19 : decode cX0_limited 19 = .ok (.goto 4, 3) := by decide +kernel
theorem dX0_limited_22 : decode cX0_limited 22 = .ok (.lload_n 0, 1) := by decide +kernel
theorem dX0_limited_23 : decode cX0_limited 23 = .ok (.lreturn, 1) := by decide +kernel
theorem dX0_product_0 : decode cX0_product 0 = .ok (.lload_n 0, 1) := by decide +kernel
theorem dX0_product_1 : decode cX0_product 1 = .ok (.invokestatic 15, 3) := by decide +kernel
theorem dX0_product_4 : decode cX0_product 4 = .ok (.lstore 4, 2) := by decide +kernel
theorem dX0_product_6 : decode cX0_product 6 = .ok (.lload_n 2, 1) := by decide +kernel
theorem dX0_product_7 : decode cX0_product 7 = .ok (.invokestatic 15, 3) := by decide +kernel
theorem dX0_product_10 : decode cX0_product 10 = .ok (.lstore 6, 2) := by decide +kernel
theorem dX0_product_12 : decode cX0_product 12 = .ok (.lload 4, 2) := by decide +kernel
theorem dX0_product_14 : decode cX0_product 14 = .ok (.lconst 0, 1) := by decide +kernel
theorem dX0_product_15 : decode cX0_product 15 = .ok (.lcmp, 1) := by decide +kernel
theorem dX0_product_16 : decode cX0_product 16 = .ok (.ifCond .ne 5, 3) := by decide +kernel
theorem dX0_product_19 : decode cX0_product 19 = .ok (.lconst 0, 1) := by decide +kernel
theorem dX0_product_20 : decode cX0_product 20 = .ok (.lreturn, 1) := by decide +kernel
theorem dX0_product_21 : decode cX0_product 21 = .ok (.lload 6, 2) := by decide +kernel
theorem dX0_product_23 : decode cX0_product 23 = .ok (.ldc2_w 21, 3) := by decide +kernel
theorem dX0_product_26 : decode cX0_product 26 = .ok (.lload 4, 2) := by decide +kernel
theorem dX0_product_28 : decode cX0_product 28 = .ok (.ldiv, 1) := by decide +kernel
theorem dX0_product_29 : decode cX0_product 29 = .ok (.lcmp, 1) := by decide +kernel
theorem dX0_product_30 : decode cX0_product 30 = .ok (.ifCond .le 7, 3) := by decide +kernel
theorem dX0_product_33 : decode cX0_product 33 = .ok (.ldc2_w 13, 3) := by decide +kernel
theorem dX0_product_36 : decode cX0_product 36 = .ok (.lreturn, 1) := by decide +kernel
theorem dX0_product_37 : decode cX0_product 37 = .ok (.lload 4, 2) := by decide +kernel
theorem dX0_product_39 : decode cX0_product 39 = .ok (.lload 6, 2) := by decide +kernel
theorem dX0_product_41 : decode cX0_product 41 = .ok (.lmul, 1) := by decide +kernel
theorem dX0_product_42 : decode cX0_product 42 = .ok (.ldc2_w 23, 3) := by decide +kernel
theorem dX0_product_45 : decode cX0_product 45 = .ok (.invokestatic 25, 3) := by decide +kernel
theorem dX0_product_48 : decode cX0_product 48 = .ok (.lstore 8, 2) := by decide +kernel
theorem dX0_product_50 : decode cX0_product 50 = .ok (.lload_n 0, 1) := by decide +kernel
theorem dX0_product_51 : decode cX0_product 51 = .ok (.lconst 0, 1) := by decide +kernel
theorem dX0_product_52 : decode cX0_product 52 = .ok (.lcmp, 1) := by decide +kernel
theorem dX0_product_53 : decode cX0_product 53 = .ok (.ifCond .ge 7, 3) := by decide +kernel
theorem dX0_product_56 : decode cX0_product 56 = .ok (.iconst 1, 1) := by decide +kernel
theorem dX0_product_57 : decode cX0_product 57 = .ok (.goto 4, 3) := by decide +kernel
theorem dX0_product_60 : decode cX0_product 60 = .ok (.iconst 0, 1) := by decide +kernel
theorem dX0_product_61 : decode cX0_product 61 = .ok (.lload_n 2, 1) := by decide +kernel
theorem dX0_product_62 : decode cX0_product 62 = .ok (.lconst 0, 1) := by decide +kernel
theorem dX0_product_63 : decode cX0_product 63 = .ok (.lcmp, 1) := by decide +kernel
theorem dX0_product_64 : decode cX0_product 64 = .ok (.ifCond .ge 7, 3) := by decide +kernel
theorem dX0_product_67 : decode cX0_product 67 = .ok (.iconst 1, 1) := by decide +kernel
theorem dX0_product_68 : decode cX0_product 68 = .ok (.goto 4, 3) := by decide +kernel
theorem dX0_product_71 : decode cX0_product 71 = .ok (.iconst 0, 1) := by decide +kernel
theorem dX0_product_72 : decode cX0_product 72 = .ok (.if_icmp .eq 9, 3) := by decide +kernel
theorem dX0_product_75 : decode cX0_product 75 = .ok (.lload 8, 2) := by decide +kernel
theorem dX0_product_77 : decode cX0_product 77 = .ok (.lneg, 1) := by decide +kernel
theorem dX0_product_78 : decode cX0_product 78 = .ok (.goto 5, 3) := by decide +kernel
theorem dX0_product_81 : decode cX0_product 81 = .ok (.lload 8, 2) := by decide +kernel
theorem dX0_product_83 : decode cX0_product 83 = .ok (.invokestatic 31, 3) := by decide +kernel
theorem dX0_product_86 : decode cX0_product 86 = .ok (.lreturn, 1) := by decide +kernel
theorem dX0_quotient_0 : decode cX0_quotient 0 = .ok (.lload_n 2, 1) := by decide +kernel
theorem dX0_quotient_1 : decode cX0_quotient 1 = .ok (.lconst 0, 1) := by decide +kernel
theorem dX0_quotient_2 : decode cX0_quotient 2 = .ok (.lcmp, 1) := by decide +kernel
theorem dX0_quotient_3 : decode cX0_quotient 3 = .ok (.ifCond .ne 7, 3) := by decide +kernel
theorem dX0_quotient_6 : decode cX0_quotient 6 = .ok (.ldc2_w 34, 3) := by decide +kernel
theorem dX0_quotient_9 : decode cX0_quotient 9 = .ok (.lreturn, 1) := by decide +kernel
theorem dX0_quotient_10 : decode cX0_quotient 10 = .ok (.ldc2_w 23, 3) := by decide +kernel
theorem dX0_quotient_13 : decode cX0_quotient 13 = .ok (.lload_n 0, 1) := by decide +kernel
theorem dX0_quotient_14 : decode cX0_quotient 14 = .ok (.invokestatic 15, 3) := by decide +kernel
theorem dX0_quotient_17 : decode cX0_quotient 17 = .ok (.lmul, 1) := by decide +kernel
theorem dX0_quotient_18 : decode cX0_quotient 18 = .ok (.lload_n 2, 1) := by decide +kernel
theorem dX0_quotient_19 : decode cX0_quotient 19 = .ok (.invokestatic 15, 3) := by decide +kernel
theorem dX0_quotient_22 : decode cX0_quotient 22 = .ok (.invokestatic 25, 3) := by decide +kernel
theorem dX0_quotient_25 : decode cX0_quotient 25 = .ok (.lstore 4, 2) := by decide +kernel
theorem dX0_quotient_27 : decode cX0_quotient 27 = .ok (.lload_n 0, 1) := by decide +kernel
theorem dX0_quotient_28 : decode cX0_quotient 28 = .ok (.lconst 0, 1) := by decide +kernel
theorem dX0_quotient_29 : decode cX0_quotient 29 = .ok (.lcmp, 1) := by decide +kernel
theorem dX0_quotient_30 : decode cX0_quotient 30 = .ok (.ifCond .ge 7, 3) := by decide +kernel
theorem dX0_quotient_33 : decode cX0_quotient 33 = .ok (.iconst 1, 1) := by decide +kernel
theorem dX0_quotient_34 : decode cX0_quotient 34 = .ok (.goto 4, 3) := by decide +kernel
theorem dX0_quotient_37 : decode cX0_quotient 37 = .ok (.iconst 0, 1) := by decide +kernel
theorem dX0_quotient_38 : decode cX0_quotient 38 = .ok (.lload_n 2, 1) := by decide +kernel
theorem dX0_quotient_39 : decode cX0_quotient 39 = .ok (.lconst 0, 1) := by decide +kernel
theorem dX0_quotient_40 : decode cX0_quotient 40 = .ok (.lcmp, 1) := by decide +kernel
theorem dX0_quotient_41 : decode cX0_quotient 41 = .ok (.ifCond .ge 7, 3) := by decide +kernel
theorem dX0_quotient_44 : decode cX0_quotient 44 = .ok (.iconst 1, 1) := by decide +kernel
theorem dX0_quotient_45 : decode cX0_quotient 45 = .ok (.goto 4, 3) := by decide +kernel
theorem dX0_quotient_48 : decode cX0_quotient 48 = .ok (.iconst 0, 1) := by decide +kernel
theorem dX0_quotient_49 : decode cX0_quotient 49 = .ok (.if_icmp .eq 9, 3) := by decide +kernel
theorem dX0_quotient_52 : decode cX0_quotient 52 = .ok (.lload 4, 2) := by decide +kernel
theorem dX0_quotient_54 : decode cX0_quotient 54 = .ok (.lneg, 1) := by decide +kernel
theorem dX0_quotient_55 : decode cX0_quotient 55 = .ok (.goto 5, 3) := by decide +kernel
theorem dX0_quotient_58 : decode cX0_quotient 58 = .ok (.lload 4, 2) := by decide +kernel
theorem dX0_quotient_60 : decode cX0_quotient 60 = .ok (.invokestatic 31, 3) := by decide +kernel
theorem dX0_quotient_63 : decode cX0_quotient 63 = .ok (.lreturn, 1) := by decide +kernel
theorem dX0_rounded_0 : decode cX0_rounded 0 = .ok (.lload_n 2, 1) := by decide +kernel
theorem dX0_rounded_1 : decode cX0_rounded 1 = .ok (.lconst 0, 1) := by decide +kernel
theorem dX0_rounded_2 : decode cX0_rounded 2 = .ok (.lcmp, 1) := by decide +kernel
theorem dX0_rounded_3 : decode cX0_rounded 3 = .ok (.ifCond .gt 5, 3) := by decide +kernel
theorem dX0_rounded_6 : decode cX0_rounded 6 = .ok (.lconst 0, 1) := by decide +kernel
theorem dX0_rounded_7 : decode cX0_rounded 7 = .ok (.lreturn, 1) := by decide +kernel
theorem dX0_rounded_8 : decode cX0_rounded 8 = .ok (.lload_n 0, 1) := by decide +kernel
theorem dX0_rounded_9 : decode cX0_rounded 9 = .ok (.lload_n 2, 1) := by decide +kernel
theorem dX0_rounded_10 : decode cX0_rounded 10 = .ok (.ldiv, 1) := by decide +kernel
theorem dX0_rounded_11 : decode cX0_rounded 11 = .ok (.lstore 4, 2) := by decide +kernel
theorem dX0_rounded_13 : decode cX0_rounded 13 = .ok (.ldc2_w 36, 3) := by decide +kernel
theorem dX0_rounded_16 : decode cX0_rounded 16 = .ok (.lload_n 0, 1) := by decide +kernel
theorem dX0_rounded_17 : decode cX0_rounded 17 = .ok (.lload_n 2, 1) := by decide +kernel
theorem dX0_rounded_18 : decode cX0_rounded 18 = .ok (.lrem, 1) := by decide +kernel
theorem dX0_rounded_19 : decode cX0_rounded 19 = .ok (.lmul, 1) := by decide +kernel
theorem dX0_rounded_20 : decode cX0_rounded 20 = .ok (.lstore 6, 2) := by decide +kernel
theorem dX0_rounded_22 : decode cX0_rounded 22 = .ok (.lload 6, 2) := by decide +kernel
theorem dX0_rounded_24 : decode cX0_rounded 24 = .ok (.lload_n 2, 1) := by decide +kernel
theorem dX0_rounded_25 : decode cX0_rounded 25 = .ok (.lcmp, 1) := by decide +kernel
theorem dX0_rounded_26 : decode cX0_rounded 26 = .ok (.ifCond .gt 19, 3) := by decide +kernel
theorem dX0_rounded_29 : decode cX0_rounded 29 = .ok (.lload 6, 2) := by decide +kernel
theorem dX0_rounded_31 : decode cX0_rounded 31 = .ok (.lload_n 2, 1) := by decide +kernel
theorem dX0_rounded_32 : decode cX0_rounded 32 = .ok (.lcmp, 1) := by decide +kernel
theorem dX0_rounded_33 : decode cX0_rounded 33 = .ok (.ifCond .ne 16, 3) := by decide +kernel
theorem dX0_rounded_36 : decode cX0_rounded 36 = .ok (.lload 4, 2) := by decide +kernel
theorem dX0_rounded_38 : decode cX0_rounded 38 = .ok (.lconst 1, 1) := by decide +kernel
theorem dX0_rounded_39 : decode cX0_rounded 39 = .ok (.land, 1) := by decide +kernel
theorem dX0_rounded_40 : decode cX0_rounded 40 = .ok (.lconst 1, 1) := by decide +kernel
theorem dX0_rounded_41 : decode cX0_rounded 41 = .ok (.lcmp, 1) := by decide +kernel
theorem dX0_rounded_42 : decode cX0_rounded 42 = .ok (.ifCond .ne 7, 3) := by decide +kernel
theorem dX0_rounded_45 : decode cX0_rounded 45 = .ok (.iconst 1, 1) := by decide +kernel
theorem dX0_rounded_46 : decode cX0_rounded 46 = .ok (.goto 4, 3) := by decide +kernel
theorem dX0_rounded_49 : decode cX0_rounded 49 = .ok (.iconst 0, 1) := by decide +kernel
theorem dX0_rounded_50 : decode cX0_rounded 50 = .ok (.istore 8, 2) := by decide +kernel
theorem dX0_rounded_52 : decode cX0_rounded 52 = .ok (.iload 8, 2) := by decide +kernel
theorem dX0_rounded_54 : decode cX0_rounded 54 = .ok (.ifCond .eq 10, 3) := by decide +kernel
theorem dX0_rounded_57 : decode cX0_rounded 57 = .ok (.lload 4, 2) := by decide +kernel
theorem dX0_rounded_59 : decode cX0_rounded 59 = .ok (.lconst 1, 1) := by decide +kernel
theorem dX0_rounded_60 : decode cX0_rounded 60 = .ok (.ladd, 1) := by decide +kernel
theorem dX0_rounded_61 : decode cX0_rounded 61 = .ok (.goto 5, 3) := by decide +kernel
theorem dX0_rounded_64 : decode cX0_rounded 64 = .ok (.lload 4, 2) := by decide +kernel
theorem dX0_rounded_66 : decode cX0_rounded 66 = .ok (.lreturn, 1) := by decide +kernel
theorem dX1_init_0 : decode cX1_init 0 = .ok (.aload_n 0, 1) := by decide +kernel
theorem dX1_init_1 : decode cX1_init 1 = .ok (.invokespecial 3, 3) := by decide +kernel
theorem dX1_init_4 : decode cX1_init 4 = .ok (.aload_n 0, 1) := by decide +kernel
theorem dX1_init_5 : decode cX1_init 5 = .ok (.bipush 16, 2) := by decide +kernel
theorem dX1_init_7 : decode cX1_init 7 = .ok (.anewarray 9, 3) := by decide +kernel
theorem dX1_init_10 : decode cX1_init 10 = .ok (.putfield 11, 3) := by decide +kernel
theorem dX1_init_13 : decode cX1_init 13 = .ok (.aload_n 0, 1) := by decide +kernel
theorem dX1_init_14 : decode cX1_init 14 = .ok (.iconst 0, 1) := by decide +kernel
theorem dX1_init_15 : decode cX1_init 15 = .ok (.putfield 17, 3) := by decide +kernel
theorem dX1_init_18 : decode cX1_init 18 = .ok (.aload_n 0, 1) := by decide +kernel
theorem dX1_init_19 : decode cX1_init 19 = .ok (.iconst 1, 1) := by decide +kernel
theorem dX1_init_20 : decode cX1_init 20 = .ok (.putfield 21, 3) := by decide +kernel
theorem dX1_init_23 : decode cX1_init 23 = .ok (.return_, 1) := by decide +kernel
theorem dX1_empty_0 : decode cX1_empty 0 = .ok (.aload_n 0, 1) := by decide +kernel
theorem dX1_empty_1 : decode cX1_empty 1 = .ok (.iconst 0, 1) := by decide +kernel
theorem dX1_empty_2 : decode cX1_empty 2 = .ok (.putfield 17, 3) := by decide +kernel
theorem dX1_empty_5 : decode cX1_empty 5 = .ok (.aload_n 0, 1) := by decide +kernel
theorem dX1_empty_6 : decode cX1_empty 6 = .ok (.iconst 1, 1) := by decide +kernel
theorem dX1_empty_7 : decode cX1_empty 7 = .ok (.putfield 21, 3) := by decide +kernel
theorem dX1_empty_10 : decode cX1_empty 10 = .ok (.return_, 1) := by decide +kernel
theorem dX1_canTake_0 : decode cX1_canTake 0 = .ok (.aload_n 0, 1) := by decide +kernel
theorem dX1_canTake_1 : decode cX1_canTake 1 = .ok (.getfield 17, 3) := by decide +kernel
theorem dX1_canTake_4 : decode cX1_canTake 4 = .ok (.bipush 16, 2) := by decide +kernel
theorem dX1_canTake_6 : decode cX1_canTake 6 = .ok (.if_icmp .ge 28, 3) := by decide +kernel
theorem dX1_canTake_9 : decode cX1_canTake 9 = .ok (.aload_n 1, 1) := by decide +kernel
theorem dX1_canTake_10 : decode cX1_canTake 10 = .ok (.getfield 24, 3) := by decide +kernel
theorem dX1_canTake_13 : decode cX1_canTake 13 = .ok (.bipush 102, 2) := by decide +kernel
theorem dX1_canTake_15 : decode cX1_canTake 15 = .ok (.if_icmp .ne 15, 3) := by decide +kernel
theorem dX1_canTake_18 : decode cX1_canTake 18 = .ok (.aload_n 0, 1) := by decide +kernel
theorem dX1_canTake_19 : decode cX1_canTake 19 = .ok (.aload_n 1, 1) := by decide +kernel
theorem dX1_canTake_20 : decode cX1_canTake 20 = .ok (.getfield 28, 3) := by decide +kernel
theorem dX1_canTake_23 : decode cX1_canTake 23 = .ok (.invokevirtual 31, 3) := by decide +kernel
theorem dX1_canTake_26 : decode cX1_canTake 26 = .ok (.iconst (-1), 1) := by decide +kernel
theorem dX1_canTake_27 : decode cX1_canTake 27 = .ok (.if_icmp .ne 7, 3) := by decide +kernel
theorem dX1_canTake_30 : decode cX1_canTake 30 = .ok (.iconst 1, 1) := by decide +kernel
theorem dX1_canTake_31 : decode cX1_canTake 31 = .ok (.goto 4, 3) := by decide +kernel
theorem dX1_canTake_34 : decode cX1_canTake 34 = .ok (.iconst 0, 1) := by decide +kernel
theorem dX1_canTake_35 : decode cX1_canTake 35 = .ok (.ireturn, 1) := by decide +kernel
theorem dX1_take_0 : decode cX1_take 0 = .ok (.aload_n 0, 1) := by decide +kernel
theorem dX1_take_1 : decode cX1_take 1 = .ok (.getfield 17, 3) := by decide +kernel
theorem dX1_take_4 : decode cX1_take 4 = .ok (.bipush 16, 2) := by decide +kernel
theorem dX1_take_6 : decode cX1_take 6 = .ok (.if_icmp .lt 5, 3) := by decide +kernel
theorem dX1_take_9 : decode cX1_take 9 = .ok (.iconst (-1), 1) := by decide +kernel
theorem dX1_take_10 : decode cX1_take 10 = .ok (.ireturn, 1) := by decide +kernel
theorem dX1_take_11 : decode cX1_take 11 = .ok (.aload_n 0, 1) := by decide +kernel
theorem dX1_take_12 : decode cX1_take 12 = .ok (.getfield 11, 3) := by decide +kernel
theorem dX1_take_15 : decode cX1_take 15 = .ok (.aload_n 0, 1) := by decide +kernel
theorem dX1_take_16 : decode cX1_take 16 = .ok (.getfield 17, 3) := by decide +kernel
theorem dX1_take_19 : decode cX1_take 19 = .ok (.aload_n 1, 1) := by decide +kernel
theorem dX1_take_20 : decode cX1_take 20 = .ok (.aastore, 1) := by decide +kernel
theorem dX1_take_21 : decode cX1_take 21 = .ok (.aload_n 0, 1) := by decide +kernel
theorem dX1_take_22 : decode cX1_take 22 = .ok (.dup, 1) := by decide +kernel
theorem dX1_take_23 : decode cX1_take 23 = .ok (.getfield 17, 3) := by decide +kernel
theorem dX1_take_26 : decode cX1_take 26 = .ok (.iconst 1, 1) := by decide +kernel
theorem dX1_take_27 : decode cX1_take 27 = .ok (.iadd, 1) := by decide +kernel
theorem dX1_take_28 : decode cX1_take 28 = .ok (.putfield 17, 3) := by decide +kernel
theorem dX1_take_31 : decode cX1_take 31 = .ok (.aload_n 0, 1) := by decide +kernel
theorem dX1_take_32 : decode cX1_take 32 = .ok (.getfield 17, 3) := by decide +kernel
theorem dX1_take_35 : decode cX1_take 35 = .ok (.iconst 1, 1) := by decide +kernel
theorem dX1_take_36 : decode cX1_take 36 = .ok (.isub, 1) := by decide +kernel
theorem dX1_take_37 : decode cX1_take 37 = .ok (.ireturn, 1) := by decide +kernel
theorem dX1_rowsOf_0 : decode cX1_rowsOf 0 = .ok (.iload_n 1, 1) := by decide +kernel
theorem dX1_rowsOf_1 : decode cX1_rowsOf 1 = .ok (.ifCond .lt 11, 3) := by decide +kernel
theorem dX1_rowsOf_4 : decode cX1_rowsOf 4 = .ok (.iload_n 1, 1) := by decide +kernel
theorem dX1_rowsOf_5 : decode cX1_rowsOf 5 = .ok (.aload_n 0, 1) := by decide +kernel
theorem dX1_rowsOf_6 : decode cX1_rowsOf 6 = .ok (.getfield 17, 3) := by decide +kernel
theorem dX1_rowsOf_9 : decode cX1_rowsOf 9 = .ok (.if_icmp .lt 5, 3) := by decide +kernel
theorem dX1_rowsOf_12 : decode cX1_rowsOf 12 = .ok (.iconst 0, 1) := by decide +kernel
theorem dX1_rowsOf_13 : decode cX1_rowsOf 13 = .ok (.ireturn, 1) := by decide +kernel
theorem dX1_rowsOf_14 : decode cX1_rowsOf 14 = .ok (.aload_n 0, 1) := by decide +kernel
theorem dX1_rowsOf_15 : decode cX1_rowsOf 15 = .ok (.getfield 11, 3) := by decide +kernel
theorem dX1_rowsOf_18 : decode cX1_rowsOf 18 = .ok (.iload_n 1, 1) := by decide +kernel
theorem dX1_rowsOf_19 : decode cX1_rowsOf 19 = .ok (.aaload, 1) := by decide +kernel
theorem dX1_rowsOf_20 : decode cX1_rowsOf 20 = .ok (.getfield 35, 3) := by decide +kernel
theorem dX1_rowsOf_23 : decode cX1_rowsOf 23 = .ok (.ifCond .eq 10, 3) := by decide +kernel
theorem dX1_rowsOf_26 : decode cX1_rowsOf 26 = .ok (.aload_n 0, 1) := by decide +kernel
theorem dX1_rowsOf_27 : decode cX1_rowsOf 27 = .ok (.getfield 21, 3) := by decide +kernel
theorem dX1_rowsOf_30 : decode cX1_rowsOf 30 = .ok (.goto 4, 3) := by decide +kernel
theorem dX1_rowsOf_33 : decode cX1_rowsOf 33 = .ok (.iconst 1, 1) := by decide +kernel
theorem dX1_rowsOf_34 : decode cX1_rowsOf 34 = .ok (.ireturn, 1) := by decide +kernel
theorem dX1_has_0 : decode cX1_has 0 = .ok (.iload_n 2, 1) := by decide +kernel
theorem dX1_has_1 : decode cX1_has 1 = .ok (.ifCond .lt 16, 3) := by decide +kernel
theorem dX1_has_4 : decode cX1_has 4 = .ok (.iload_n 2, 1) := by decide +kernel
theorem dX1_has_5 : decode cX1_has 5 = .ok (.aload_n 0, 1) := by decide +kernel
theorem dX1_has_6 : decode cX1_has 6 = .ok (.iload_n 1, 1) := by decide +kernel
theorem dX1_has_7 : decode cX1_has 7 = .ok (.invokevirtual 39, 3) := by decide +kernel
theorem dX1_has_10 : decode cX1_has 10 = .ok (.if_icmp .ge 7, 3) := by decide +kernel
theorem dX1_has_13 : decode cX1_has 13 = .ok (.iconst 1, 1) := by decide +kernel
theorem dX1_has_14 : decode cX1_has 14 = .ok (.goto 4, 3) := by decide +kernel
theorem dX1_has_17 : decode cX1_has 17 = .ok (.iconst 0, 1) := by decide +kernel
theorem dX1_has_18 : decode cX1_has 18 = .ok (.ireturn, 1) := by decide +kernel
theorem dX1_isField_0 : decode cX1_isField 0 = .ok (.aload_n 0, 1) := by decide +kernel
theorem dX1_isField_1 : decode cX1_isField 1 = .ok (.iload_n 1, 1) := by decide +kernel
theorem dX1_isField_2 : decode cX1_isField 2 = .ok (.bipush 102, 2) := by decide +kernel
theorem dX1_isField_4 : decode cX1_isField 4 = .ok (.invokevirtual 42, 3) := by decide +kernel
theorem dX1_isField_7 : decode cX1_isField 7 = .ok (.ireturn, 1) := by decide +kernel
theorem dX1_isCheck_0 : decode cX1_isCheck 0 = .ok (.aload_n 0, 1) := by decide +kernel
theorem dX1_isCheck_1 : decode cX1_isCheck 1 = .ok (.iload_n 1, 1) := by decide +kernel
theorem dX1_isCheck_2 : decode cX1_isCheck 2 = .ok (.bipush 33, 2) := by decide +kernel
theorem dX1_isCheck_4 : decode cX1_isCheck 4 = .ok (.invokevirtual 42, 3) := by decide +kernel
theorem dX1_isCheck_7 : decode cX1_isCheck 7 = .ok (.ireturn, 1) := by decide +kernel
theorem dX1_isCaption_0 : decode cX1_isCaption 0 = .ok (.aload_n 0, 1) := by decide +kernel
theorem dX1_isCaption_1 : decode cX1_isCaption 1 = .ok (.iload_n 1, 1) := by decide +kernel
theorem dX1_isCaption_2 : decode cX1_isCaption 2 = .ok (.bipush 34, 2) := by decide +kernel
theorem dX1_isCaption_4 : decode cX1_isCaption 4 = .ok (.invokevirtual 42, 3) := by decide +kernel
theorem dX1_isCaption_7 : decode cX1_isCaption 7 = .ok (.ireturn, 1) := by decide +kernel
theorem dX1_isTold_0 : decode cX1_isTold 0 = .ok (.aload_n 0, 1) := by decide +kernel
theorem dX1_isTold_1 : decode cX1_isTold 1 = .ok (.iload_n 1, 1) := by decide +kernel
theorem dX1_isTold_2 : decode cX1_isTold 2 = .ok (.invokevirtual 46, 3) := by decide +kernel
theorem dX1_isTold_5 : decode cX1_isTold 5 = .ok (.ifCond .eq 19, 3) := by decide +kernel
theorem dX1_isTold_8 : decode cX1_isTold 8 = .ok (.aload_n 0, 1) := by decide +kernel
theorem dX1_isTold_9 : decode cX1_isTold 9 = .ok (.getfield 11, 3) := by decide +kernel
theorem dX1_isTold_12 : decode cX1_isTold 12 = .ok (.iload_n 1, 1) := by decide +kernel
theorem dX1_isTold_13 : decode cX1_isTold 13 = .ok (.aaload, 1) := by decide +kernel
theorem dX1_isTold_14 : decode cX1_isTold 14 = .ok (.getfield 50, 3) := by decide +kernel
theorem dX1_isTold_17 : decode cX1_isTold 17 = .ok (.ifnonnull 7, 3) := by decide +kernel
theorem dX1_isTold_20 : decode cX1_isTold 20 = .ok (.iconst 1, 1) := by decide +kernel
theorem dX1_isTold_21 : decode cX1_isTold 21 = .ok (.goto 4, 3) := by decide +kernel
theorem dX1_isTold_24 : decode cX1_isTold 24 = .ok (.iconst 0, 1) := by decide +kernel
theorem dX1_isTold_25 : decode cX1_isTold 25 = .ok (.ireturn, 1) := by decide +kernel
theorem dX1_repeats_0 : decode cX1_repeats 0 = .ok (.iload_n 1, 1) := by decide +kernel
theorem dX1_repeats_1 : decode cX1_repeats 1 = .ok (.ifCond .lt 27, 3) := by decide +kernel
theorem dX1_repeats_4 : decode cX1_repeats 4 = .ok (.iload_n 1, 1) := by decide +kernel
theorem dX1_repeats_5 : decode cX1_repeats 5 = .ok (.aload_n 0, 1) := by decide +kernel
theorem dX1_repeats_6 : decode cX1_repeats 6 = .ok (.getfield 17, 3) := by decide +kernel
theorem dX1_repeats_9 : decode cX1_repeats 9 = .ok (.if_icmp .ge 19, 3) := by decide +kernel
theorem dX1_repeats_12 : decode cX1_repeats 12 = .ok (.aload_n 0, 1) := by decide +kernel
theorem dX1_repeats_13 : decode cX1_repeats 13 = .ok (.getfield 11, 3) := by decide +kernel
theorem dX1_repeats_16 : decode cX1_repeats 16 = .ok (.iload_n 1, 1) := by decide +kernel
theorem dX1_repeats_17 : decode cX1_repeats 17 = .ok (.aaload, 1) := by decide +kernel
theorem dX1_repeats_18 : decode cX1_repeats 18 = .ok (.getfield 35, 3) := by decide +kernel
theorem dX1_repeats_21 : decode cX1_repeats 21 = .ok (.ifCond .eq 7, 3) := by decide +kernel
theorem dX1_repeats_24 : decode cX1_repeats 24 = .ok (.iconst 1, 1) := by decide +kernel
theorem dX1_repeats_25 : decode cX1_repeats 25 = .ok (.goto 4, 3) := by decide +kernel
theorem dX1_repeats_28 : decode cX1_repeats 28 = .ok (.iconst 0, 1) := by decide +kernel
theorem dX1_repeats_29 : decode cX1_repeats 29 = .ok (.ireturn, 1) := by decide +kernel
theorem dX1_isOfKind_0 : decode cX1_isOfKind 0 = .ok (.iload_n 1, 1) := by decide +kernel
theorem dX1_isOfKind_1 : decode cX1_isOfKind 1 = .ok (.ifCond .lt 28, 3) := by decide +kernel
theorem dX1_isOfKind_4 : decode cX1_isOfKind 4 = .ok (.iload_n 1, 1) := by decide +kernel
theorem dX1_isOfKind_5 : decode cX1_isOfKind 5 = .ok (.aload_n 0, 1) := by decide +kernel
theorem dX1_isOfKind_6 : decode cX1_isOfKind 6 = .ok (.getfield 17, 3) := by decide +kernel
theorem dX1_isOfKind_9 : decode cX1_isOfKind 9 = .ok (.if_icmp .ge 20, 3) := by decide +kernel
theorem dX1_isOfKind_12 : decode cX1_isOfKind 12 = .ok (.aload_n 0, 1) := by decide +kernel
theorem dX1_isOfKind_13 : decode cX1_isOfKind 13 = .ok (.getfield 11, 3) := by decide +kernel
theorem dX1_isOfKind_16 : decode cX1_isOfKind 16 = .ok (.iload_n 1, 1) := by decide +kernel
theorem dX1_isOfKind_17 : decode cX1_isOfKind 17 = .ok (.aaload, 1) := by decide +kernel
theorem dX1_isOfKind_18 : decode cX1_isOfKind 18 = .ok (.getfield 24, 3) := by decide +kernel
theorem dX1_isOfKind_21 : decode cX1_isOfKind 21 = .ok (.iload_n 2, 1) := by decide +kernel
theorem dX1_isOfKind_22 : decode cX1_isOfKind 22 = .ok (.if_icmp .ne 7, 3) := by decide +kernel
theorem dX1_isOfKind_25 : decode cX1_isOfKind 25 = .ok (.iconst 1, 1) := by decide +kernel
theorem dX1_isOfKind_26 : decode cX1_isOfKind 26 = .ok (.goto 4, 3) := by decide +kernel
theorem dX1_isOfKind_29 : decode cX1_isOfKind 29 = .ok (.iconst 0, 1) := by decide +kernel
theorem dX1_isOfKind_30 : decode cX1_isOfKind 30 = .ok (.ireturn, 1) := by decide +kernel
theorem dX1_fieldNamed_0 : decode cX1_fieldNamed 0 = .ok (.iconst 0, 1) := by decide +kernel
theorem dX1_fieldNamed_1 : decode cX1_fieldNamed 1 = .ok (.istore_n 2, 1) := by decide +kernel
theorem dX1_fieldNamed_2 : decode cX1_fieldNamed 2 = .ok (.iload_n 2, 1) := by decide +kernel
theorem dX1_fieldNamed_3 : decode cX1_fieldNamed 3 = .ok (.aload_n 0, 1) := by decide +kernel
theorem dX1_fieldNamed_4 : decode cX1_fieldNamed 4 = .ok (.getfield 17, 3) := by decide +kernel
theorem dX1_fieldNamed_7 : decode cX1_fieldNamed 7 = .ok (.if_icmp .ge 32, 3) := by decide +kernel
theorem dX1_fieldNamed_10 : decode cX1_fieldNamed 10 = .ok (.aload_n 0, 1) := by decide +kernel
theorem dX1_fieldNamed_11 : decode cX1_fieldNamed 11 = .ok (.iload_n 2, 1) := by decide +kernel
theorem dX1_fieldNamed_12 : decode cX1_fieldNamed 12 = .ok (.invokevirtual 46, 3) := by decide +kernel
theorem dX1_fieldNamed_15 : decode cX1_fieldNamed 15 = .ok (.ifCond .eq 18, 3) := by decide +kernel
theorem dX1_fieldNamed_18 : decode cX1_fieldNamed 18 = .ok (.aload_n 0, 1) := by decide +kernel
theorem dX1_fieldNamed_19 : decode cX1_fieldNamed 19 = .ok (.getfield 11, 3) := by decide +kernel
theorem dX1_fieldNamed_22 : decode cX1_fieldNamed 22 = .ok (.iload_n 2, 1) := by decide +kernel
theorem dX1_fieldNamed_23 : decode cX1_fieldNamed 23 = .ok (.aaload, 1) := by decide +kernel
theorem dX1_fieldNamed_24 : decode cX1_fieldNamed 24 = .ok (.getfield 28, 3) := by decide +kernel
theorem dX1_fieldNamed_27 : decode cX1_fieldNamed 27 = .ok (.iload_n 1, 1) := by decide +kernel
theorem dX1_fieldNamed_28 : decode cX1_fieldNamed 28 = .ok (.if_icmp .ne 5, 3) := by decide +kernel
theorem dX1_fieldNamed_31 : decode cX1_fieldNamed 31 = .ok (.iload_n 2, 1) := by decide +kernel
theorem dX1_fieldNamed_32 : decode cX1_fieldNamed 32 = .ok (.ireturn, 1) := by decide +kernel
theorem dX1_fieldNamed_33 : decode cX1_fieldNamed 33 = .ok (.iinc 2 1, 3) := by decide +kernel
theorem dX1_fieldNamed_36 : decode cX1_fieldNamed 36 = .ok (.goto (-34), 3) := by decide +kernel
theorem dX1_fieldNamed_39 : decode cX1_fieldNamed 39 = .ok (.iconst (-1), 1) := by decide +kernel
theorem dX1_fieldNamed_40 : decode cX1_fieldNamed 40 = .ok (.ireturn, 1) := by decide +kernel
theorem dX1_valueCount_0 : decode cX1_valueCount 0 = .ok (.iconst 0, 1) := by decide +kernel
theorem dX1_valueCount_1 : decode cX1_valueCount 1 = .ok (.istore_n 1, 1) := by decide +kernel
theorem dX1_valueCount_2 : decode cX1_valueCount 2 = .ok (.iconst 0, 1) := by decide +kernel
theorem dX1_valueCount_3 : decode cX1_valueCount 3 = .ok (.istore_n 2, 1) := by decide +kernel
theorem dX1_valueCount_4 : decode cX1_valueCount 4 = .ok (.iload_n 2, 1) := by decide +kernel
theorem dX1_valueCount_5 : decode cX1_valueCount 5 = .ok (.aload_n 0, 1) := by decide +kernel
theorem dX1_valueCount_6 : decode cX1_valueCount 6 = .ok (.getfield 17, 3) := by decide +kernel
theorem dX1_valueCount_9 : decode cX1_valueCount 9 = .ok (.if_icmp .ge 25, 3) := by decide +kernel
theorem dX1_valueCount_12 : decode cX1_valueCount 12 = .ok (.aload_n 0, 1) := by decide +kernel
theorem dX1_valueCount_13 : decode cX1_valueCount 13 = .ok (.iload_n 2, 1) := by decide +kernel
theorem dX1_valueCount_14 : decode cX1_valueCount 14 = .ok (.invokevirtual 46, 3) := by decide +kernel
theorem dX1_valueCount_17 : decode cX1_valueCount 17 = .ok (.ifCond .eq 11, 3) := by decide +kernel
theorem dX1_valueCount_20 : decode cX1_valueCount 20 = .ok (.iload_n 1, 1) := by decide +kernel
theorem dX1_valueCount_21 : decode cX1_valueCount 21 = .ok (.aload_n 0, 1) := by decide +kernel
theorem dX1_valueCount_22 : decode cX1_valueCount 22 = .ok (.iload_n 2, 1) := by decide +kernel
theorem dX1_valueCount_23 : decode cX1_valueCount 23 = .ok (.invokevirtual 39, 3) := by decide +kernel
theorem dX1_valueCount_26 : decode cX1_valueCount 26 = .ok (.iadd, 1) := by decide +kernel
theorem dX1_valueCount_27 : decode cX1_valueCount 27 = .ok (.istore_n 1, 1) := by decide +kernel
theorem dX1_valueCount_28 : decode cX1_valueCount 28 = .ok (.iinc 2 1, 3) := by decide +kernel
theorem dX1_valueCount_31 : decode cX1_valueCount 31 = .ok (.goto (-27), 3) := by decide +kernel
theorem dX1_valueCount_34 : decode cX1_valueCount 34 = .ok (.iload_n 1, 1) := by decide +kernel
theorem dX1_valueCount_35 : decode cX1_valueCount 35 = .ok (.ireturn, 1) := by decide +kernel
theorem dX1_resolveNames_0 : decode cX1_resolveNames 0 = .ok (.iconst 0, 1) := by decide +kernel
theorem dX1_resolveNames_1 : decode cX1_resolveNames 1 = .ok (.istore_n 1, 1) := by decide +kernel
theorem dX1_resolveNames_2 : decode cX1_resolveNames 2 = .ok (.iload_n 1, 1) := by decide +kernel
theorem dX1_resolveNames_3 : decode cX1_resolveNames 3 = .ok (.aload_n 0, 1) := by decide +kernel
theorem dX1_resolveNames_4 : decode cX1_resolveNames 4 = .ok (.getfield 17, 3) := by decide +kernel
theorem dX1_resolveNames_7 : decode cX1_resolveNames 7 = .ok (.if_icmp .ge 36, 3) := by decide +kernel
theorem dX1_resolveNames_10 : decode cX1_resolveNames 10 = .ok (.aload_n 0, 1) := by decide +kernel
theorem dX1_resolveNames_11 : decode cX1_resolveNames 11 = .ok (.aload_n 0, 1) := by decide +kernel
theorem dX1_resolveNames_12 : decode cX1_resolveNames 12 = .ok (.getfield 11, 3) := by decide +kernel
theorem dX1_resolveNames_15 : decode cX1_resolveNames 15 = .ok (.iload_n 1, 1) := by decide +kernel
theorem dX1_resolveNames_16 : decode cX1_resolveNames 16 = .ok (.aaload, 1) := by decide +kernel
theorem dX1_resolveNames_17 : decode cX1_resolveNames 17 = .ok (.getfield 50, 3) := by decide +kernel
theorem dX1_resolveNames_20 : decode cX1_resolveNames 20 = .ok (.aload_n 0, 1) := by decide +kernel
theorem dX1_resolveNames_21 : decode cX1_resolveNames 21 = .ok (.getfield 11, 3) := by decide +kernel
theorem dX1_resolveNames_24 : decode cX1_resolveNames 24 = .ok (.iload_n 1, 1) := by decide +kernel
theorem dX1_resolveNames_25 : decode cX1_resolveNames 25 = .ok (.aaload, 1) := by decide +kernel
theorem dX1_resolveNames_26 : decode cX1_resolveNames 26 = .ok (.getfield 35, 3) := by decide +kernel
theorem dX1_resolveNames_29 : decode cX1_resolveNames 29 = .ok (.invokevirtual 54, 3) := by decide +kernel
theorem dX1_resolveNames_32 : decode cX1_resolveNames 32 = .ok (.ifCond .ne 5, 3) := by decide +kernel
theorem dX1_resolveNames_35 : decode cX1_resolveNames 35 = .ok (.iconst 0, 1) := by decide +kernel
theorem dX1_resolveNames_36 : decode cX1_resolveNames 36 = .ok (.ireturn, 1) := by decide +kernel
theorem dX1_resolveNames_37 : decode cX1_resolveNames 37 = .ok (.iinc 1 1, 3) := by decide +kernel
theorem dX1_resolveNames_40 : decode cX1_resolveNames 40 = .ok (.goto (-38), 3) := by decide +kernel
theorem dX1_resolveNames_43 : decode cX1_resolveNames 43 = .ok (.iconst 1, 1) := by decide +kernel
theorem dX1_resolveNames_44 : decode cX1_resolveNames 44 = .ok (.ireturn, 1) := by decide +kernel
theorem dX1_resolve_0 : decode cX1_resolve 0 = .ok (.aload_n 1, 1) := by decide +kernel
theorem dX1_resolve_1 : decode cX1_resolve 1 = .ok (.ifnonnull 5, 3) := by decide +kernel
theorem dX1_resolve_4 : decode cX1_resolve 4 = .ok (.iconst 1, 1) := by decide +kernel
theorem dX1_resolve_5 : decode cX1_resolve 5 = .ok (.ireturn, 1) := by decide +kernel
theorem dX1_resolve_6 : decode cX1_resolve 6 = .ok (.aload_n 1, 1) := by decide +kernel
theorem dX1_resolve_7 : decode cX1_resolve 7 = .ok (.getfield 58, 3) := by decide +kernel
theorem dX1_resolve_10 : decode cX1_resolve 10 = .ok (.bipush 97, 2) := by decide +kernel
theorem dX1_resolve_12 : decode cX1_resolve 12 = .ok (.if_icmp .eq 12, 3) := by decide +kernel
theorem dX1_resolve_15 : decode cX1_resolve 15 = .ok (.aload_n 1, 1) := by decide +kernel
theorem dX1_resolve_16 : decode cX1_resolve 16 = .ok (.getfield 58, 3) := by decide +kernel
theorem dX1_resolve_19 : decode cX1_resolve 19 = .ok (.bipush 35, 2) := by decide +kernel
theorem dX1_resolve_21 : decode cX1_resolve 21 = .ok (.if_icmp .ne 66, 3) := by decide +kernel
theorem dX1_resolve_24 : decode cX1_resolve 24 = .ok (.aload_n 1, 1) := by decide +kernel
theorem dX1_resolve_25 : decode cX1_resolve 25 = .ok (.aload_n 0, 1) := by decide +kernel
theorem dX1_resolve_26 : decode cX1_resolve 26 = .ok (.aload_n 1, 1) := by decide +kernel
theorem dX1_resolve_27 : decode cX1_resolve 27 = .ok (.getfield 61, 3) := by decide +kernel
theorem dX1_resolve_30 : decode cX1_resolve 30 = .ok (.invokevirtual 31, 3) := by decide +kernel
theorem dX1_resolve_33 : decode cX1_resolve 33 = .ok (.putfield 62, 3) := by decide +kernel
theorem dX1_resolve_36 : decode cX1_resolve 36 = .ok (.aload_n 1, 1) := by decide +kernel
theorem dX1_resolve_37 : decode cX1_resolve 37 = .ok (.getfield 62, 3) := by decide +kernel
theorem dX1_resolve_40 : decode cX1_resolve 40 = .ok (.iconst (-1), 1) := by decide +kernel
theorem dX1_resolve_41 : decode cX1_resolve 41 = .ok (.if_icmp .ne 5, 3) := by decide +kernel
theorem dX1_resolve_44 : decode cX1_resolve 44 = .ok (.iconst 0, 1) := by decide +kernel
theorem dX1_resolve_45 : decode cX1_resolve 45 = .ok (.ireturn, 1) := by decide +kernel
theorem dX1_resolve_46 : decode cX1_resolve 46 = .ok (.aload_n 1, 1) := by decide +kernel
theorem dX1_resolve_47 : decode cX1_resolve 47 = .ok (.getfield 58, 3) := by decide +kernel
theorem dX1_resolve_50 : decode cX1_resolve 50 = .ok (.bipush 35, 2) := by decide +kernel
theorem dX1_resolve_52 : decode cX1_resolve 52 = .ok (.if_icmp .ne 14, 3) := by decide +kernel
theorem dX1_resolve_55 : decode cX1_resolve 55 = .ok (.aload_n 0, 1) := by decide +kernel
theorem dX1_resolve_56 : decode cX1_resolve 56 = .ok (.aload_n 1, 1) := by decide +kernel
theorem dX1_resolve_57 : decode cX1_resolve 57 = .ok (.getfield 62, 3) := by decide +kernel
theorem dX1_resolve_60 : decode cX1_resolve 60 = .ok (.invokevirtual 65, 3) := by decide +kernel
theorem dX1_resolve_63 : decode cX1_resolve 63 = .ok (.goto 23, 3) := by decide +kernel
theorem dX1_resolve_66 : decode cX1_resolve 66 = .ok (.iload_n 2, 1) := by decide +kernel
theorem dX1_resolve_67 : decode cX1_resolve 67 = .ok (.ifCond .ne 14, 3) := by decide +kernel
theorem dX1_resolve_70 : decode cX1_resolve 70 = .ok (.aload_n 0, 1) := by decide +kernel
theorem dX1_resolve_71 : decode cX1_resolve 71 = .ok (.aload_n 1, 1) := by decide +kernel
theorem dX1_resolve_72 : decode cX1_resolve 72 = .ok (.getfield 62, 3) := by decide +kernel
theorem dX1_resolve_75 : decode cX1_resolve 75 = .ok (.invokevirtual 65, 3) := by decide +kernel
theorem dX1_resolve_78 : decode cX1_resolve 78 = .ok (.ifCond .ne 7, 3) := by decide +kernel
theorem dX1_resolve_81 : decode cX1_resolve 81 = .ok (.iconst 1, 1) := by decide +kernel
theorem dX1_resolve_82 : decode cX1_resolve 82 = .ok (.goto 4, 3) := by decide +kernel
theorem dX1_resolve_85 : decode cX1_resolve 85 = .ok (.iconst 0, 1) := by decide +kernel
theorem dX1_resolve_86 : decode cX1_resolve 86 = .ok (.ireturn, 1) := by decide +kernel
theorem dX1_resolve_87 : decode cX1_resolve 87 = .ok (.aload_n 0, 1) := by decide +kernel
theorem dX1_resolve_88 : decode cX1_resolve 88 = .ok (.aload_n 1, 1) := by decide +kernel
theorem dX1_resolve_89 : decode cX1_resolve 89 = .ok (.getfield 67, 3) := by decide +kernel
theorem dX1_resolve_92 : decode cX1_resolve 92 = .ok (.iload_n 2, 1) := by decide +kernel
theorem dX1_resolve_93 : decode cX1_resolve 93 = .ok (.invokevirtual 54, 3) := by decide +kernel
theorem dX1_resolve_96 : decode cX1_resolve 96 = .ok (.ifCond .eq 31, 3) := by decide +kernel
theorem dX1_resolve_99 : decode cX1_resolve 99 = .ok (.aload_n 0, 1) := by decide +kernel
theorem dX1_resolve_100 : decode cX1_resolve 100 = .ok (.aload_n 1, 1) := by decide +kernel
theorem dX1_resolve_101 : decode cX1_resolve 101 = .ok (.getfield 70, 3) := by decide +kernel
theorem dX1_resolve_104 : decode cX1_resolve 104 = .ok (.iload_n 2, 1) := by decide +kernel
theorem dX1_resolve_105 : decode cX1_resolve 105 = .ok (.invokevirtual 54, 3) := by decide +kernel
theorem dX1_resolve_108 : decode cX1_resolve 108 = .ok (.ifCond .eq 19, 3) := by decide +kernel
theorem dX1_resolve_111 : decode cX1_resolve 111 = .ok (.aload_n 0, 1) := by decide +kernel
theorem dX1_resolve_112 : decode cX1_resolve 112 = .ok (.aload_n 1, 1) := by decide +kernel
theorem dX1_resolve_113 : decode cX1_resolve 113 = .ok (.getfield 73, 3) := by decide +kernel
theorem dX1_resolve_116 : decode cX1_resolve 116 = .ok (.iload_n 2, 1) := by decide +kernel
theorem dX1_resolve_117 : decode cX1_resolve 117 = .ok (.invokevirtual 54, 3) := by decide +kernel
theorem dX1_resolve_120 : decode cX1_resolve 120 = .ok (.ifCond .eq 7, 3) := by decide +kernel
theorem dX1_resolve_123 : decode cX1_resolve 123 = .ok (.iconst 1, 1) := by decide +kernel
theorem dX1_resolve_124 : decode cX1_resolve 124 = .ok (.goto 4, 3) := by decide +kernel
theorem dX1_resolve_127 : decode cX1_resolve 127 = .ok (.iconst 0, 1) := by decide +kernel
theorem dX1_resolve_128 : decode cX1_resolve 128 = .ok (.ireturn, 1) := by decide +kernel
theorem dX2_init_0 : decode cX2_init 0 = .ok (.aload_n 0, 1) := by decide +kernel
theorem dX2_init_1 : decode cX2_init 1 = .ok (.invokespecial 1, 3) := by decide +kernel
theorem dX2_init_4 : decode cX2_init 4 = .ok (.aload_n 0, 1) := by decide +kernel
theorem dX2_init_5 : decode cX2_init 5 = .ok (.iload_n 1, 1) := by decide +kernel
theorem dX2_init_6 : decode cX2_init 6 = .ok (.putfield 7, 3) := by decide +kernel
theorem dX2_init_9 : decode cX2_init 9 = .ok (.aload_n 0, 1) := by decide +kernel
theorem dX2_init_10 : decode cX2_init 10 = .ok (.iload_n 2, 1) := by decide +kernel
theorem dX2_init_11 : decode cX2_init 11 = .ok (.putfield 13, 3) := by decide +kernel
theorem dX2_init_14 : decode cX2_init 14 = .ok (.aload_n 0, 1) := by decide +kernel
theorem dX2_init_15 : decode cX2_init 15 = .ok (.iload_n 3, 1) := by decide +kernel
theorem dX2_init_16 : decode cX2_init 16 = .ok (.putfield 17, 3) := by decide +kernel
theorem dX2_init_19 : decode cX2_init 19 = .ok (.aload_n 0, 1) := by decide +kernel
theorem dX2_init_20 : decode cX2_init 20 = .ok (.aload 4, 2) := by decide +kernel
theorem dX2_init_22 : decode cX2_init 22 = .ok (.putfield 21, 3) := by decide +kernel
theorem dX2_init_25 : decode cX2_init 25 = .ok (.aload_n 0, 1) := by decide +kernel
theorem dX2_init_26 : decode cX2_init 26 = .ok (.iload 5, 2) := by decide +kernel
theorem dX2_init_28 : decode cX2_init 28 = .ok (.putfield 25, 3) := by decide +kernel
theorem dX2_init_31 : decode cX2_init 31 = .ok (.return_, 1) := by decide +kernel
theorem dX3_init_0 : decode cX3_init 0 = .ok (.aload_n 0, 1) := by decide +kernel
theorem dX3_init_1 : decode cX3_init 1 = .ok (.invokespecial 3, 3) := by decide +kernel
theorem dX3_init_4 : decode cX3_init 4 = .ok (.aload_n 0, 1) := by decide +kernel
theorem dX3_init_5 : decode cX3_init 5 = .ok (.bipush 64, 2) := by decide +kernel
theorem dX3_init_7 : decode cX3_init 7 = .ok (.newarray .int, 2) := by decide +kernel
theorem dX3_init_9 : decode cX3_init 9 = .ok (.putfield 9, 3) := by decide +kernel
theorem dX3_init_12 : decode cX3_init 12 = .ok (.aload_n 0, 1) := by decide +kernel
theorem dX3_init_13 : decode cX3_init 13 = .ok (.bipush 64, 2) := by decide +kernel
theorem dX3_init_15 : decode cX3_init 15 = .ok (.newarray .int, 2) := by decide +kernel
theorem dX3_init_17 : decode cX3_init 17 = .ok (.putfield 15, 3) := by decide +kernel
theorem dX3_init_20 : decode cX3_init 20 = .ok (.aload_n 0, 1) := by decide +kernel
theorem dX3_init_21 : decode cX3_init 21 = .ok (.bipush 64, 2) := by decide +kernel
theorem dX3_init_23 : decode cX3_init 23 = .ok (.newarray .int, 2) := by decide +kernel
theorem dX3_init_25 : decode cX3_init 25 = .ok (.putfield 18, 3) := by decide +kernel
theorem dX3_init_28 : decode cX3_init 28 = .ok (.aload_n 0, 1) := by decide +kernel
theorem dX3_init_29 : decode cX3_init 29 = .ok (.iconst 0, 1) := by decide +kernel
theorem dX3_init_30 : decode cX3_init 30 = .ok (.putfield 21, 3) := by decide +kernel
theorem dX3_init_33 : decode cX3_init 33 = .ok (.aload_n 0, 1) := by decide +kernel
theorem dX3_init_34 : decode cX3_init 34 = .ok (.aload_n 1, 1) := by decide +kernel
theorem dX3_init_35 : decode cX3_init 35 = .ok (.putfield 25, 3) := by decide +kernel
theorem dX3_init_38 : decode cX3_init 38 = .ok (.aload_n 0, 1) := by decide +kernel
theorem dX3_init_39 : decode cX3_init 39 = .ok (.aload_n 2, 1) := by decide +kernel
theorem dX3_init_40 : decode cX3_init 40 = .ok (.putfield 29, 3) := by decide +kernel
theorem dX3_init_43 : decode cX3_init 43 = .ok (.aload_n 0, 1) := by decide +kernel
theorem dX3_init_44 : decode cX3_init 44 = .ok (.iload_n 3, 1) := by decide +kernel
theorem dX3_init_45 : decode cX3_init 45 = .ok (.putfield 33, 3) := by decide +kernel
theorem dX3_init_48 : decode cX3_init 48 = .ok (.aload_n 0, 1) := by decide +kernel
theorem dX3_init_49 : decode cX3_init 49 = .ok (.bipush 64, 2) := by decide +kernel
theorem dX3_init_51 : decode cX3_init 51 = .ok (.iload_n 3, 1) := by decide +kernel
theorem dX3_init_52 : decode cX3_init 52 = .ok (.imul, 1) := by decide +kernel
theorem dX3_init_53 : decode cX3_init 53 = .ok (.newarray .int, 2) := by decide +kernel
theorem dX3_init_55 : decode cX3_init 55 = .ok (.putfield 36, 3) := by decide +kernel
theorem dX3_init_58 : decode cX3_init 58 = .ok (.return_, 1) := by decide +kernel
theorem dX3_pageCount_0 : decode cX3_pageCount 0 = .ok (.aload_n 0, 1) := by decide +kernel
theorem dX3_pageCount_1 : decode cX3_pageCount 1 = .ok (.getfield 9, 3) := by decide +kernel
theorem dX3_pageCount_4 : decode cX3_pageCount 4 = .ok (.iconst 0, 1) := by decide +kernel
theorem dX3_pageCount_5 : decode cX3_pageCount 5 = .ok (.iaload, 1) := by decide +kernel
theorem dX3_pageCount_6 : decode cX3_pageCount 6 = .ok (.ifCond .ne 7, 3) := by decide +kernel
theorem dX3_pageCount_9 : decode cX3_pageCount 9 = .ok (.iconst 0, 1) := by decide +kernel
theorem dX3_pageCount_10 : decode cX3_pageCount 10 = .ok (.goto 9, 3) := by decide +kernel
theorem dX3_pageCount_13 : decode cX3_pageCount 13 = .ok (.aload_n 0, 1) := by decide +kernel
theorem dX3_pageCount_14 : decode cX3_pageCount 14 = .ok (.getfield 21, 3) := by decide +kernel
theorem dX3_pageCount_17 : decode cX3_pageCount 17 = .ok (.iconst 1, 1) := by decide +kernel
theorem dX3_pageCount_18 : decode cX3_pageCount 18 = .ok (.iadd, 1) := by decide +kernel
theorem dX3_pageCount_19 : decode cX3_pageCount 19 = .ok (.ireturn, 1) := by decide +kernel
theorem dX3_placeOf_0 : decode cX3_placeOf 0 = .ok (.aload_n 0, 1) := by decide +kernel
theorem dX3_placeOf_1 : decode cX3_placeOf 1 = .ok (.getfield 25, 3) := by decide +kernel
theorem dX3_placeOf_4 : decode cX3_placeOf 4 = .ok (.iload_n 1, 1) := by decide +kernel
theorem dX3_placeOf_5 : decode cX3_placeOf 5 = .ok (.iload_n 2, 1) := by decide +kernel
theorem dX3_placeOf_6 : decode cX3_placeOf 6 = .ok (.invokevirtual 39, 3) := by decide +kernel
theorem dX3_placeOf_9 : decode cX3_placeOf 9 = .ok (.ifCond .eq 16, 3) := by decide +kernel
theorem dX3_placeOf_12 : decode cX3_placeOf 12 = .ok (.aload_n 0, 1) := by decide +kernel
theorem dX3_placeOf_13 : decode cX3_placeOf 13 = .ok (.getfield 15, 3) := by decide +kernel
theorem dX3_placeOf_16 : decode cX3_placeOf 16 = .ok (.iload_n 1, 1) := by decide +kernel
theorem dX3_placeOf_17 : decode cX3_placeOf 17 = .ok (.iload_n 2, 1) := by decide +kernel
theorem dX3_placeOf_18 : decode cX3_placeOf 18 = .ok (.invokestatic 45, 3) := by decide +kernel
theorem dX3_placeOf_21 : decode cX3_placeOf 21 = .ok (.iaload, 1) := by decide +kernel
theorem dX3_placeOf_22 : decode cX3_placeOf 22 = .ok (.goto 4, 3) := by decide +kernel
theorem dX3_placeOf_25 : decode cX3_placeOf 25 = .ok (.iconst (-1), 1) := by decide +kernel
theorem dX3_placeOf_26 : decode cX3_placeOf 26 = .ok (.ireturn, 1) := by decide +kernel
theorem dX3_standsAt_0 : decode cX3_standsAt 0 = .ok (.iload_n 1, 1) := by decide +kernel
theorem dX3_standsAt_1 : decode cX3_standsAt 1 = .ok (.ifCond .lt 25, 3) := by decide +kernel
theorem dX3_standsAt_4 : decode cX3_standsAt 4 = .ok (.iload_n 1, 1) := by decide +kernel
theorem dX3_standsAt_5 : decode cX3_standsAt 5 = .ok (.aload_n 0, 1) := by decide +kernel
theorem dX3_standsAt_6 : decode cX3_standsAt 6 = .ok (.getfield 21, 3) := by decide +kernel
theorem dX3_standsAt_9 : decode cX3_standsAt 9 = .ok (.if_icmp .gt 17, 3) := by decide +kernel
theorem dX3_standsAt_12 : decode cX3_standsAt 12 = .ok (.iload_n 2, 1) := by decide +kernel
theorem dX3_standsAt_13 : decode cX3_standsAt 13 = .ok (.ifCond .lt 13, 3) := by decide +kernel
theorem dX3_standsAt_16 : decode cX3_standsAt 16 = .ok (.iload_n 2, 1) := by decide +kernel
theorem dX3_standsAt_17 : decode cX3_standsAt 17 = .ok (.aload_n 0, 1) := by decide +kernel
theorem dX3_standsAt_18 : decode cX3_standsAt 18 = .ok (.getfield 9, 3) := by decide +kernel
theorem dX3_standsAt_21 : decode cX3_standsAt 21 = .ok (.iload_n 1, 1) := by decide +kernel
theorem dX3_standsAt_22 : decode cX3_standsAt 22 = .ok (.iaload, 1) := by decide +kernel
theorem dX3_standsAt_23 : decode cX3_standsAt 23 = .ok (.if_icmp .lt 5, 3) := by decide +kernel
theorem dX3_standsAt_26 : decode cX3_standsAt 26 = .ok (.iconst (-1), 1) := by decide +kernel
theorem dX3_standsAt_27 : decode cX3_standsAt 27 = .ok (.ireturn, 1) := by decide +kernel
theorem dX3_standsAt_28 : decode cX3_standsAt 28 = .ok (.aload_n 0, 1) := by decide +kernel
theorem dX3_standsAt_29 : decode cX3_standsAt 29 = .ok (.getfield 36, 3) := by decide +kernel
theorem dX3_standsAt_32 : decode cX3_standsAt 32 = .ok (.iload_n 1, 1) := by decide +kernel
theorem dX3_standsAt_33 : decode cX3_standsAt 33 = .ok (.aload_n 0, 1) := by decide +kernel
theorem dX3_standsAt_34 : decode cX3_standsAt 34 = .ok (.getfield 33, 3) := by decide +kernel
theorem dX3_standsAt_37 : decode cX3_standsAt 37 = .ok (.imul, 1) := by decide +kernel
theorem dX3_standsAt_38 : decode cX3_standsAt 38 = .ok (.iload_n 2, 1) := by decide +kernel
theorem dX3_standsAt_39 : decode cX3_standsAt 39 = .ok (.iadd, 1) := by decide +kernel
theorem dX3_standsAt_40 : decode cX3_standsAt 40 = .ok (.iaload, 1) := by decide +kernel
theorem dX3_standsAt_41 : decode cX3_standsAt 41 = .ok (.ireturn, 1) := by decide +kernel
theorem dX3_layOut_0 : decode cX3_layOut 0 = .ok (.aload_n 0, 1) := by decide +kernel
theorem dX3_layOut_1 : decode cX3_layOut 1 = .ok (.getfield 15, 3) := by decide +kernel
theorem dX3_layOut_4 : decode cX3_layOut 4 = .ok (.iconst (-1), 1) := by decide +kernel
theorem dX3_layOut_5 : decode cX3_layOut 5 = .ok (.invokestatic 49, 3) := by decide +kernel
theorem dX3_layOut_8 : decode cX3_layOut 8 = .ok (.aload_n 0, 1) := by decide +kernel
theorem dX3_layOut_9 : decode cX3_layOut 9 = .ok (.getfield 9, 3) := by decide +kernel
theorem dX3_layOut_12 : decode cX3_layOut 12 = .ok (.iconst 0, 1) := by decide +kernel
theorem dX3_layOut_13 : decode cX3_layOut 13 = .ok (.invokestatic 49, 3) := by decide +kernel
theorem dX3_layOut_16 : decode cX3_layOut 16 = .ok (.aload_n 0, 1) := by decide +kernel
theorem dX3_layOut_17 : decode cX3_layOut 17 = .ok (.iconst 0, 1) := by decide +kernel
theorem dX3_layOut_18 : decode cX3_layOut 18 = .ok (.putfield 21, 3) := by decide +kernel
theorem dX3_layOut_21 : decode cX3_layOut 21 = .ok (.aload_n 0, 1) := by decide +kernel
theorem dX3_layOut_22 : decode cX3_layOut 22 = .ok (.invokevirtual 55, 3) := by decide +kernel
theorem dX3_layOut_25 : decode cX3_layOut 25 = .ok (.iconst 0, 1) := by decide +kernel
theorem dX3_layOut_26 : decode cX3_layOut 26 = .ok (.istore_n 1, 1) := by decide +kernel
theorem dX3_layOut_27 : decode cX3_layOut 27 = .ok (.iload_n 1, 1) := by decide +kernel
theorem dX3_layOut_28 : decode cX3_layOut 28 = .ok (.aload_n 0, 1) := by decide +kernel
theorem dX3_layOut_29 : decode cX3_layOut 29 = .ok (.getfield 25, 3) := by decide +kernel
theorem dX3_layOut_32 : decode cX3_layOut 32 = .ok (.getfield 58, 3) := by decide +kernel
theorem dX3_layOut_35 : decode cX3_layOut 35 = .ok (.if_icmp .ge 47, 3) := by decide +kernel
theorem dX3_layOut_38 : decode cX3_layOut 38 = .ok (.aload_n 0, 1) := by decide +kernel
theorem dX3_layOut_39 : decode cX3_layOut 39 = .ok (.getfield 25, 3) := by decide +kernel
theorem dX3_layOut_42 : decode cX3_layOut 42 = .ok (.iload_n 1, 1) := by decide +kernel
theorem dX3_layOut_43 : decode cX3_layOut 43 = .ok (.invokevirtual 61, 3) := by decide +kernel
theorem dX3_layOut_46 : decode cX3_layOut 46 = .ok (.ifCond .ne 12, 3) := by decide +kernel
theorem dX3_layOut_49 : decode cX3_layOut 49 = .ok (.aload_n 0, 1) := by decide +kernel
theorem dX3_layOut_50 : decode cX3_layOut 50 = .ok (.iload_n 1, 1) := by decide +kernel
theorem dX3_layOut_51 : decode cX3_layOut 51 = .ok (.iconst 0, 1) := by decide +kernel
theorem dX3_layOut_52 : decode cX3_layOut 52 = .ok (.invokevirtual 65, 3) := by decide +kernel
theorem dX3_layOut_55 : decode cX3_layOut 55 = .ok (.goto 21, 3) := by decide +kernel
theorem dX3_layOut_58 : decode cX3_layOut 58 = .ok (.aload_n 0, 1) := by decide +kernel
theorem dX3_layOut_59 : decode cX3_layOut 59 = .ok (.getfield 25, 3) := by decide +kernel
theorem dX3_layOut_62 : decode cX3_layOut 62 = .ok (.iload_n 1, 1) := by decide +kernel
theorem dX3_layOut_63 : decode cX3_layOut 63 = .ok (.iconst 1, 1) := by decide +kernel
theorem dX3_layOut_64 : decode cX3_layOut 64 = .ok (.isub, 1) := by decide +kernel
theorem dX3_layOut_65 : decode cX3_layOut 65 = .ok (.invokevirtual 61, 3) := by decide +kernel
theorem dX3_layOut_68 : decode cX3_layOut 68 = .ok (.ifCond .ne 8, 3) := by decide +kernel
theorem dX3_layOut_71 : decode cX3_layOut 71 = .ok (.aload_n 0, 1) := by decide +kernel
theorem dX3_layOut_72 : decode cX3_layOut 72 = .ok (.iload_n 1, 1) := by decide +kernel
theorem dX3_layOut_73 : decode cX3_layOut 73 = .ok (.invokevirtual 69, 3) := by decide +kernel
theorem dX3_layOut_76 : decode cX3_layOut 76 = .ok (.iinc 1 1, 3) := by decide +kernel
theorem dX3_layOut_79 : decode cX3_layOut 79 = .ok (.goto (-52), 3) := by decide +kernel
theorem dX3_layOut_82 : decode cX3_layOut 82 = .ok (.return_, 1) := by decide +kernel
theorem dX3_measure_0 : decode cX3_measure 0 = .ok (.iconst 0, 1) := by decide +kernel
theorem dX3_measure_1 : decode cX3_measure 1 = .ok (.istore_n 1, 1) := by decide +kernel
theorem dX3_measure_2 : decode cX3_measure 2 = .ok (.iload_n 1, 1) := by decide +kernel
theorem dX3_measure_3 : decode cX3_measure 3 = .ok (.aload_n 0, 1) := by decide +kernel
theorem dX3_measure_4 : decode cX3_measure 4 = .ok (.getfield 25, 3) := by decide +kernel
theorem dX3_measure_7 : decode cX3_measure 7 = .ok (.getfield 58, 3) := by decide +kernel
theorem dX3_measure_10 : decode cX3_measure 10 = .ok (.if_icmp .ge 45, 3) := by decide +kernel
theorem dX3_measure_13 : decode cX3_measure 13 = .ok (.iconst 0, 1) := by decide +kernel
theorem dX3_measure_14 : decode cX3_measure 14 = .ok (.istore_n 2, 1) := by decide +kernel
theorem dX3_measure_15 : decode cX3_measure 15 = .ok (.iload_n 2, 1) := by decide +kernel
theorem dX3_measure_16 : decode cX3_measure 16 = .ok (.aload_n 0, 1) := by decide +kernel
theorem dX3_measure_17 : decode cX3_measure 17 = .ok (.getfield 25, 3) := by decide +kernel
theorem dX3_measure_20 : decode cX3_measure 20 = .ok (.iload_n 1, 1) := by decide +kernel
theorem dX3_measure_21 : decode cX3_measure 21 = .ok (.invokevirtual 73, 3) := by decide +kernel
theorem dX3_measure_24 : decode cX3_measure 24 = .ok (.if_icmp .ge 25, 3) := by decide +kernel
theorem dX3_measure_27 : decode cX3_measure 27 = .ok (.aload_n 0, 1) := by decide +kernel
theorem dX3_measure_28 : decode cX3_measure 28 = .ok (.getfield 18, 3) := by decide +kernel
theorem dX3_measure_31 : decode cX3_measure 31 = .ok (.iload_n 1, 1) := by decide +kernel
theorem dX3_measure_32 : decode cX3_measure 32 = .ok (.iload_n 2, 1) := by decide +kernel
theorem dX3_measure_33 : decode cX3_measure 33 = .ok (.invokestatic 45, 3) := by decide +kernel
theorem dX3_measure_36 : decode cX3_measure 36 = .ok (.aload_n 0, 1) := by decide +kernel
theorem dX3_measure_37 : decode cX3_measure 37 = .ok (.iload_n 1, 1) := by decide +kernel
theorem dX3_measure_38 : decode cX3_measure 38 = .ok (.iload_n 2, 1) := by decide +kernel
theorem dX3_measure_39 : decode cX3_measure 39 = .ok (.invokevirtual 77, 3) := by decide +kernel
theorem dX3_measure_42 : decode cX3_measure 42 = .ok (.iastore, 1) := by decide +kernel
theorem dX3_measure_43 : decode cX3_measure 43 = .ok (.iinc 2 1, 3) := by decide +kernel
theorem dX3_measure_46 : decode cX3_measure 46 = .ok (.goto (-31), 3) := by decide +kernel
theorem dX3_measure_49 : decode cX3_measure 49 = .ok (.iinc 1 1, 3) := by decide +kernel
theorem dX3_measure_52 : decode cX3_measure 52 = .ok (.goto (-50), 3) := by decide +kernel
theorem dX3_measure_55 : decode cX3_measure 55 = .ok (.return_, 1) := by decide +kernel
theorem dX3_linesOf_0 : decode cX3_linesOf 0 = .ok (.aload_n 0, 1) := by decide +kernel
theorem dX3_linesOf_1 : decode cX3_linesOf 1 = .ok (.getfield 25, 3) := by decide +kernel
theorem dX3_linesOf_4 : decode cX3_linesOf 4 = .ok (.iload_n 1, 1) := by decide +kernel
theorem dX3_linesOf_5 : decode cX3_linesOf 5 = .ok (.invokevirtual 80, 3) := by decide +kernel
theorem dX3_linesOf_8 : decode cX3_linesOf 8 = .ok (.ifCond .eq 16, 3) := by decide +kernel
theorem dX3_linesOf_11 : decode cX3_linesOf 11 = .ok (.aload_n 0, 1) := by decide +kernel
theorem dX3_linesOf_12 : decode cX3_linesOf 12 = .ok (.getfield 25, 3) := by decide +kernel
theorem dX3_linesOf_15 : decode cX3_linesOf 15 = .ok (.getfield 83, 3) := by decide +kernel
theorem dX3_linesOf_18 : decode cX3_linesOf 18 = .ok (.iload_n 1, 1) := by decide +kernel
theorem dX3_linesOf_19 : decode cX3_linesOf 19 = .ok (.aaload, 1) := by decide +kernel
theorem dX3_linesOf_20 : decode cX3_linesOf 20 = .ok (.getfield 87, 3) := by decide +kernel
theorem dX3_linesOf_23 : decode cX3_linesOf 23 = .ok (.ireturn, 1) := by decide +kernel
theorem dX3_linesOf_24 : decode cX3_linesOf 24 = .ok (.aload_n 0, 1) := by decide +kernel
theorem dX3_linesOf_25 : decode cX3_linesOf 25 = .ok (.getfield 25, 3) := by decide +kernel
theorem dX3_linesOf_28 : decode cX3_linesOf 28 = .ok (.iload_n 1, 1) := by decide +kernel
theorem dX3_linesOf_29 : decode cX3_linesOf 29 = .ok (.invokevirtual 92, 3) := by decide +kernel
theorem dX3_linesOf_32 : decode cX3_linesOf 32 = .ok (.ifCond .ne 15, 3) := by decide +kernel
theorem dX3_linesOf_35 : decode cX3_linesOf 35 = .ok (.aload_n 0, 1) := by decide +kernel
theorem dX3_linesOf_36 : decode cX3_linesOf 36 = .ok (.getfield 29, 3) := by decide +kernel
theorem dX3_linesOf_39 : decode cX3_linesOf 39 = .ok (.iload_n 1, 1) := by decide +kernel
theorem dX3_linesOf_40 : decode cX3_linesOf 40 = .ok (.iload_n 2, 1) := by decide +kernel
theorem dX3_linesOf_41 : decode cX3_linesOf 41 = .ok (.invokevirtual 95, 3) := by decide +kernel
theorem dX3_linesOf_44 : decode cX3_linesOf 44 = .ok (.ifCond .eq 7, 3) := by decide +kernel
theorem dX3_linesOf_47 : decode cX3_linesOf 47 = .ok (.iconst 1, 1) := by decide +kernel
theorem dX3_linesOf_48 : decode cX3_linesOf 48 = .ok (.goto 4, 3) := by decide +kernel
theorem dX3_linesOf_51 : decode cX3_linesOf 51 = .ok (.iconst 0, 1) := by decide +kernel
theorem dX3_linesOf_52 : decode cX3_linesOf 52 = .ok (.ireturn, 1) := by decide +kernel
theorem dX3_putSection_0 : decode cX3_putSection 0 = .ok (.iload_n 1, 1) := by decide +kernel
theorem dX3_putSection_1 : decode cX3_putSection 1 = .ok (.istore_n 2, 1) := by decide +kernel
theorem dX3_putSection_2 : decode cX3_putSection 2 = .ok (.iload_n 2, 1) := by decide +kernel
theorem dX3_putSection_3 : decode cX3_putSection 3 = .ok (.aload_n 0, 1) := by decide +kernel
theorem dX3_putSection_4 : decode cX3_putSection 4 = .ok (.getfield 25, 3) := by decide +kernel
theorem dX3_putSection_7 : decode cX3_putSection 7 = .ok (.getfield 58, 3) := by decide +kernel
theorem dX3_putSection_10 : decode cX3_putSection 10 = .ok (.if_icmp .ge 20, 3) := by decide +kernel
theorem dX3_putSection_13 : decode cX3_putSection 13 = .ok (.aload_n 0, 1) := by decide +kernel
theorem dX3_putSection_14 : decode cX3_putSection 14 = .ok (.getfield 25, 3) := by decide +kernel
theorem dX3_putSection_17 : decode cX3_putSection 17 = .ok (.iload_n 2, 1) := by decide +kernel
theorem dX3_putSection_18 : decode cX3_putSection 18 = .ok (.invokevirtual 61, 3) := by decide +kernel
theorem dX3_putSection_21 : decode cX3_putSection 21 = .ok (.ifCond .eq 9, 3) := by decide +kernel
theorem dX3_putSection_24 : decode cX3_putSection 24 = .ok (.iinc 2 1, 3) := by decide +kernel
theorem dX3_putSection_27 : decode cX3_putSection 27 = .ok (.goto (-25), 3) := by decide +kernel
theorem dX3_putSection_30 : decode cX3_putSection 30 = .ok (.iconst 0, 1) := by decide +kernel
theorem dX3_putSection_31 : decode cX3_putSection 31 = .ok (.istore_n 3, 1) := by decide +kernel
theorem dX3_putSection_32 : decode cX3_putSection 32 = .ok (.iload_n 3, 1) := by decide +kernel
theorem dX3_putSection_33 : decode cX3_putSection 33 = .ok (.aload_n 0, 1) := by decide +kernel
theorem dX3_putSection_34 : decode cX3_putSection 34 = .ok (.getfield 25, 3) := by decide +kernel
theorem dX3_putSection_37 : decode cX3_putSection 37 = .ok (.getfield 100, 3) := by decide +kernel
theorem dX3_putSection_40 : decode cX3_putSection 40 = .ok (.if_icmp .ge 16, 3) := by decide +kernel
theorem dX3_putSection_43 : decode cX3_putSection 43 = .ok (.aload_n 0, 1) := by decide +kernel
theorem dX3_putSection_44 : decode cX3_putSection 44 = .ok (.iload_n 1, 1) := by decide +kernel
theorem dX3_putSection_45 : decode cX3_putSection 45 = .ok (.iload_n 2, 1) := by decide +kernel
theorem dX3_putSection_46 : decode cX3_putSection 46 = .ok (.iload_n 3, 1) := by decide +kernel
theorem dX3_putSection_47 : decode cX3_putSection 47 = .ok (.invokevirtual 103, 3) := by decide +kernel
theorem dX3_putSection_50 : decode cX3_putSection 50 = .ok (.iinc 3 1, 3) := by decide +kernel
theorem dX3_putSection_53 : decode cX3_putSection 53 = .ok (.goto (-21), 3) := by decide +kernel
theorem dX3_putSection_56 : decode cX3_putSection 56 = .ok (.return_, 1) := by decide +kernel
theorem dX3_putBlock_0 : decode cX3_putBlock 0 = .ok (.iconst 0, 1) := by decide +kernel
theorem dX3_putBlock_1 : decode cX3_putBlock 1 = .ok (.istore 4, 2) := by decide +kernel
theorem dX3_putBlock_3 : decode cX3_putBlock 3 = .ok (.iload_n 1, 1) := by decide +kernel
theorem dX3_putBlock_4 : decode cX3_putBlock 4 = .ok (.istore 5, 2) := by decide +kernel
theorem dX3_putBlock_6 : decode cX3_putBlock 6 = .ok (.iload 5, 2) := by decide +kernel
theorem dX3_putBlock_8 : decode cX3_putBlock 8 = .ok (.iload_n 2, 1) := by decide +kernel
theorem dX3_putBlock_9 : decode cX3_putBlock 9 = .ok (.if_icmp .ge 25, 3) := by decide +kernel
theorem dX3_putBlock_12 : decode cX3_putBlock 12 = .ok (.iload 4, 2) := by decide +kernel
theorem dX3_putBlock_14 : decode cX3_putBlock 14 = .ok (.aload_n 0, 1) := by decide +kernel
theorem dX3_putBlock_15 : decode cX3_putBlock 15 = .ok (.getfield 18, 3) := by decide +kernel
theorem dX3_putBlock_18 : decode cX3_putBlock 18 = .ok (.iload 5, 2) := by decide +kernel
theorem dX3_putBlock_20 : decode cX3_putBlock 20 = .ok (.iload_n 3, 1) := by decide +kernel
theorem dX3_putBlock_21 : decode cX3_putBlock 21 = .ok (.invokestatic 45, 3) := by decide +kernel
theorem dX3_putBlock_24 : decode cX3_putBlock 24 = .ok (.iaload, 1) := by decide +kernel
theorem dX3_putBlock_25 : decode cX3_putBlock 25 = .ok (.iadd, 1) := by decide +kernel
theorem dX3_putBlock_26 : decode cX3_putBlock 26 = .ok (.istore 4, 2) := by decide +kernel
theorem dX3_putBlock_28 : decode cX3_putBlock 28 = .ok (.iinc 5 1, 3) := by decide +kernel
theorem dX3_putBlock_31 : decode cX3_putBlock 31 = .ok (.goto (-25), 3) := by decide +kernel
theorem dX3_putBlock_34 : decode cX3_putBlock 34 = .ok (.iload 4, 2) := by decide +kernel
theorem dX3_putBlock_36 : decode cX3_putBlock 36 = .ok (.aload_n 0, 1) := by decide +kernel
theorem dX3_putBlock_37 : decode cX3_putBlock 37 = .ok (.getfield 33, 3) := by decide +kernel
theorem dX3_putBlock_40 : decode cX3_putBlock 40 = .ok (.if_icmp .gt 7, 3) := by decide +kernel
theorem dX3_putBlock_43 : decode cX3_putBlock 43 = .ok (.iconst 1, 1) := by decide +kernel
theorem dX3_putBlock_44 : decode cX3_putBlock 44 = .ok (.goto 4, 3) := by decide +kernel
theorem dX3_putBlock_47 : decode cX3_putBlock 47 = .ok (.iconst 0, 1) := by decide +kernel
theorem dX3_putBlock_48 : decode cX3_putBlock 48 = .ok (.istore 5, 2) := by decide +kernel
theorem dX3_putBlock_50 : decode cX3_putBlock 50 = .ok (.iload 5, 2) := by decide +kernel
theorem dX3_putBlock_52 : decode cX3_putBlock 52 = .ok (.ifCond .eq 25, 3) := by decide +kernel
theorem dX3_putBlock_55 : decode cX3_putBlock 55 = .ok (.aload_n 0, 1) := by decide +kernel
theorem dX3_putBlock_56 : decode cX3_putBlock 56 = .ok (.iload 4, 2) := by decide +kernel
theorem dX3_putBlock_58 : decode cX3_putBlock 58 = .ok (.invokevirtual 107, 3) := by decide +kernel
theorem dX3_putBlock_61 : decode cX3_putBlock 61 = .ok (.ifCond .eq 16, 3) := by decide +kernel
theorem dX3_putBlock_64 : decode cX3_putBlock 64 = .ok (.iload_n 3, 1) := by decide +kernel
theorem dX3_putBlock_65 : decode cX3_putBlock 65 = .ok (.ifCond .le 12, 3) := by decide +kernel
theorem dX3_putBlock_68 : decode cX3_putBlock 68 = .ok (.aload_n 0, 1) := by decide +kernel
theorem dX3_putBlock_69 : decode cX3_putBlock 69 = .ok (.iload_n 1, 1) := by decide +kernel
theorem dX3_putBlock_70 : decode cX3_putBlock 70 = .ok (.iconst 1, 1) := by decide +kernel
theorem dX3_putBlock_71 : decode cX3_putBlock 71 = .ok (.isub, 1) := by decide +kernel
theorem dX3_putBlock_72 : decode cX3_putBlock 72 = .ok (.iload 4, 2) := by decide +kernel
theorem dX3_putBlock_74 : decode cX3_putBlock 74 = .ok (.invokevirtual 110, 3) := by decide +kernel
theorem dX3_putBlock_77 : decode cX3_putBlock 77 = .ok (.iload_n 1, 1) := by decide +kernel
theorem dX3_putBlock_78 : decode cX3_putBlock 78 = .ok (.istore 6, 2) := by decide +kernel
theorem dX3_putBlock_80 : decode cX3_putBlock 80 = .ok (.iload 6, 2) := by decide +kernel
theorem dX3_putBlock_82 : decode cX3_putBlock 82 = .ok (.iload_n 2, 1) := by decide +kernel
theorem dX3_putBlock_83 : decode cX3_putBlock 83 = .ok (.if_icmp .ge 31, 3) := by decide +kernel
theorem dX3_putBlock_86 : decode cX3_putBlock 86 = .ok (.iload 5, 2) := by decide +kernel
theorem dX3_putBlock_88 : decode cX3_putBlock 88 = .ok (.ifCond .eq 13, 3) := by decide +kernel
theorem dX3_putBlock_91 : decode cX3_putBlock 91 = .ok (.aload_n 0, 1) := by decide +kernel
theorem dX3_putBlock_92 : decode cX3_putBlock 92 = .ok (.iload 6, 2) := by decide +kernel
theorem dX3_putBlock_94 : decode cX3_putBlock 94 = .ok (.iload_n 3, 1) := by decide +kernel
theorem dX3_putBlock_95 : decode cX3_putBlock 95 = .ok (.invokevirtual 113, 3) := by decide +kernel
theorem dX3_putBlock_98 : decode cX3_putBlock 98 = .ok (.goto 10, 3) := by decide +kernel
theorem dX3_putBlock_101 : decode cX3_putBlock 101 = .ok (.aload_n 0, 1) := by decide +kernel
theorem dX3_putBlock_102 : decode cX3_putBlock 102 = .ok (.iload 6, 2) := by decide +kernel
theorem dX3_putBlock_104 : decode cX3_putBlock 104 = .ok (.iload_n 3, 1) := by decide +kernel
theorem dX3_putBlock_105 : decode cX3_putBlock 105 = .ok (.invokevirtual 65, 3) := by decide +kernel
theorem dX3_putBlock_108 : decode cX3_putBlock 108 = .ok (.iinc 6 1, 3) := by decide +kernel
theorem dX3_putBlock_111 : decode cX3_putBlock 111 = .ok (.goto (-31), 3) := by decide +kernel
theorem dX3_putBlock_114 : decode cX3_putBlock 114 = .ok (.return_, 1) := by decide +kernel
theorem dX3_putHeader_0 : decode cX3_putHeader 0 = .ok (.aload_n 0, 1) := by decide +kernel
theorem dX3_putHeader_1 : decode cX3_putHeader 1 = .ok (.getfield 25, 3) := by decide +kernel
theorem dX3_putHeader_4 : decode cX3_putHeader 4 = .ok (.iload_n 1, 1) := by decide +kernel
theorem dX3_putHeader_5 : decode cX3_putHeader 5 = .ok (.invokevirtual 80, 3) := by decide +kernel
theorem dX3_putHeader_8 : decode cX3_putHeader 8 = .ok (.ifCond .eq 28, 3) := by decide +kernel
theorem dX3_putHeader_11 : decode cX3_putHeader 11 = .ok (.aload_n 0, 1) := by decide +kernel
theorem dX3_putHeader_12 : decode cX3_putHeader 12 = .ok (.getfield 18, 3) := by decide +kernel
theorem dX3_putHeader_15 : decode cX3_putHeader 15 = .ok (.iload_n 1, 1) := by decide +kernel
theorem dX3_putHeader_16 : decode cX3_putHeader 16 = .ok (.iconst 0, 1) := by decide +kernel
theorem dX3_putHeader_17 : decode cX3_putHeader 17 = .ok (.invokestatic 45, 3) := by decide +kernel
theorem dX3_putHeader_20 : decode cX3_putHeader 20 = .ok (.iaload, 1) := by decide +kernel
theorem dX3_putHeader_21 : decode cX3_putHeader 21 = .ok (.iload_n 2, 1) := by decide +kernel
theorem dX3_putHeader_22 : decode cX3_putHeader 22 = .ok (.iadd, 1) := by decide +kernel
theorem dX3_putHeader_23 : decode cX3_putHeader 23 = .ok (.aload_n 0, 1) := by decide +kernel
theorem dX3_putHeader_24 : decode cX3_putHeader 24 = .ok (.getfield 33, 3) := by decide +kernel
theorem dX3_putHeader_27 : decode cX3_putHeader 27 = .ok (.if_icmp .gt 9, 3) := by decide +kernel
theorem dX3_putHeader_30 : decode cX3_putHeader 30 = .ok (.aload_n 0, 1) := by decide +kernel
theorem dX3_putHeader_31 : decode cX3_putHeader 31 = .ok (.iload_n 1, 1) := by decide +kernel
theorem dX3_putHeader_32 : decode cX3_putHeader 32 = .ok (.iconst 0, 1) := by decide +kernel
theorem dX3_putHeader_33 : decode cX3_putHeader 33 = .ok (.invokevirtual 113, 3) := by decide +kernel
theorem dX3_putHeader_36 : decode cX3_putHeader 36 = .ok (.return_, 1) := by decide +kernel
theorem dX3_putAlone_0 : decode cX3_putAlone 0 = .ok (.aload_n 0, 1) := by decide +kernel
theorem dX3_putAlone_1 : decode cX3_putAlone 1 = .ok (.aload_n 0, 1) := by decide +kernel
theorem dX3_putAlone_2 : decode cX3_putAlone 2 = .ok (.getfield 18, 3) := by decide +kernel
theorem dX3_putAlone_5 : decode cX3_putAlone 5 = .ok (.iload_n 1, 1) := by decide +kernel
theorem dX3_putAlone_6 : decode cX3_putAlone 6 = .ok (.iload_n 2, 1) := by decide +kernel
theorem dX3_putAlone_7 : decode cX3_putAlone 7 = .ok (.invokestatic 45, 3) := by decide +kernel
theorem dX3_putAlone_10 : decode cX3_putAlone 10 = .ok (.iaload, 1) := by decide +kernel
theorem dX3_putAlone_11 : decode cX3_putAlone 11 = .ok (.invokevirtual 107, 3) := by decide +kernel
theorem dX3_putAlone_14 : decode cX3_putAlone 14 = .ok (.pop, 1) := by decide +kernel
theorem dX3_putAlone_15 : decode cX3_putAlone 15 = .ok (.aload_n 0, 1) := by decide +kernel
theorem dX3_putAlone_16 : decode cX3_putAlone 16 = .ok (.iload_n 1, 1) := by decide +kernel
theorem dX3_putAlone_17 : decode cX3_putAlone 17 = .ok (.iload_n 2, 1) := by decide +kernel
theorem dX3_putAlone_18 : decode cX3_putAlone 18 = .ok (.invokevirtual 113, 3) := by decide +kernel
theorem dX3_putAlone_21 : decode cX3_putAlone 21 = .ok (.return_, 1) := by decide +kernel
theorem dX3_turnPage_0 : decode cX3_turnPage 0 = .ok (.aload_n 0, 1) := by decide +kernel
theorem dX3_turnPage_1 : decode cX3_turnPage 1 = .ok (.getfield 9, 3) := by decide +kernel
theorem dX3_turnPage_4 : decode cX3_turnPage 4 = .ok (.aload_n 0, 1) := by decide +kernel
theorem dX3_turnPage_5 : decode cX3_turnPage 5 = .ok (.getfield 21, 3) := by decide +kernel
theorem dX3_turnPage_8 : decode cX3_turnPage 8 = .ok (.iaload, 1) := by decide +kernel
theorem dX3_turnPage_9 : decode cX3_turnPage 9 = .ok (.ifCond .eq 32, 3) := by decide +kernel
theorem dX3_turnPage_12 : decode cX3_turnPage 12 = .ok (.iload_n 1, 1) := by decide +kernel
theorem dX3_turnPage_13 : decode cX3_turnPage 13 = .ok (.aload_n 0, 1) := by decide +kernel
theorem dX3_turnPage_14 : decode cX3_turnPage 14 = .ok (.getfield 33, 3) := by decide +kernel
theorem dX3_turnPage_17 : decode cX3_turnPage 17 = .ok (.aload_n 0, 1) := by decide +kernel
theorem dX3_turnPage_18 : decode cX3_turnPage 18 = .ok (.getfield 9, 3) := by decide +kernel
theorem dX3_turnPage_21 : decode cX3_turnPage 21 = .ok (.aload_n 0, 1) := by decide +kernel
theorem dX3_turnPage_22 : decode cX3_turnPage 22 = .ok (.getfield 21, 3) := by decide +kernel
theorem dX3_turnPage_25 : decode cX3_turnPage 25 = .ok (.iaload, 1) := by decide +kernel
theorem dX3_turnPage_26 : decode cX3_turnPage 26 = .ok (.isub, 1) := by decide +kernel
theorem dX3_turnPage_27 : decode cX3_turnPage 27 = .ok (.if_icmp .le 14, 3) := by decide +kernel
theorem dX3_turnPage_30 : decode cX3_turnPage 30 = .ok (.aload_n 0, 1) := by decide +kernel
theorem dX3_turnPage_31 : decode cX3_turnPage 31 = .ok (.getfield 21, 3) := by decide +kernel
theorem dX3_turnPage_34 : decode cX3_turnPage 34 = .ok (.iconst 1, 1) := by decide +kernel
theorem dX3_turnPage_35 : decode cX3_turnPage 35 = .ok (.iadd, 1) := by decide +kernel
theorem dX3_turnPage_36 : decode cX3_turnPage 36 = .ok (.bipush 64, 2) := by decide +kernel
theorem dX3_turnPage_38 : decode cX3_turnPage 38 = .ok (.if_icmp .lt 5, 3) := by decide +kernel
theorem dX3_turnPage_41 : decode cX3_turnPage 41 = .ok (.iconst 0, 1) := by decide +kernel
theorem dX3_turnPage_42 : decode cX3_turnPage 42 = .ok (.ireturn, 1) := by decide +kernel
theorem dX3_turnPage_43 : decode cX3_turnPage 43 = .ok (.aload_n 0, 1) := by decide +kernel
theorem dX3_turnPage_44 : decode cX3_turnPage 44 = .ok (.dup, 1) := by decide +kernel
theorem dX3_turnPage_45 : decode cX3_turnPage 45 = .ok (.getfield 21, 3) := by decide +kernel
theorem dX3_turnPage_48 : decode cX3_turnPage 48 = .ok (.iconst 1, 1) := by decide +kernel
theorem dX3_turnPage_49 : decode cX3_turnPage 49 = .ok (.iadd, 1) := by decide +kernel
theorem dX3_turnPage_50 : decode cX3_turnPage 50 = .ok (.putfield 21, 3) := by decide +kernel
theorem dX3_turnPage_53 : decode cX3_turnPage 53 = .ok (.iconst 1, 1) := by decide +kernel
theorem dX3_turnPage_54 : decode cX3_turnPage 54 = .ok (.ireturn, 1) := by decide +kernel
theorem dX3_putLines_0 : decode cX3_putLines 0 = .ok (.iload_n 1, 1) := by decide +kernel
theorem dX3_putLines_1 : decode cX3_putLines 1 = .ok (.iload_n 2, 1) := by decide +kernel
theorem dX3_putLines_2 : decode cX3_putLines 2 = .ok (.invokestatic 45, 3) := by decide +kernel
theorem dX3_putLines_5 : decode cX3_putLines 5 = .ok (.istore_n 3, 1) := by decide +kernel
theorem dX3_putLines_6 : decode cX3_putLines 6 = .ok (.aload_n 0, 1) := by decide +kernel
theorem dX3_putLines_7 : decode cX3_putLines 7 = .ok (.getfield 18, 3) := by decide +kernel
theorem dX3_putLines_10 : decode cX3_putLines 10 = .ok (.iload_n 3, 1) := by decide +kernel
theorem dX3_putLines_11 : decode cX3_putLines 11 = .ok (.iaload, 1) := by decide +kernel
theorem dX3_putLines_12 : decode cX3_putLines 12 = .ok (.aload_n 0, 1) := by decide +kernel
theorem dX3_putLines_13 : decode cX3_putLines 13 = .ok (.getfield 33, 3) := by decide +kernel
theorem dX3_putLines_16 : decode cX3_putLines 16 = .ok (.aload_n 0, 1) := by decide +kernel
theorem dX3_putLines_17 : decode cX3_putLines 17 = .ok (.getfield 9, 3) := by decide +kernel
theorem dX3_putLines_20 : decode cX3_putLines 20 = .ok (.aload_n 0, 1) := by decide +kernel
theorem dX3_putLines_21 : decode cX3_putLines 21 = .ok (.getfield 21, 3) := by decide +kernel
theorem dX3_putLines_24 : decode cX3_putLines 24 = .ok (.iaload, 1) := by decide +kernel
theorem dX3_putLines_25 : decode cX3_putLines 25 = .ok (.isub, 1) := by decide +kernel
theorem dX3_putLines_26 : decode cX3_putLines 26 = .ok (.invokestatic 116, 3) := by decide +kernel
theorem dX3_putLines_29 : decode cX3_putLines 29 = .ok (.istore 4, 2) := by decide +kernel
theorem dX3_putLines_31 : decode cX3_putLines 31 = .ok (.iload 4, 2) := by decide +kernel
theorem dX3_putLines_33 : decode cX3_putLines 33 = .ok (.ifCond .le 36, 3) := by decide +kernel
theorem dX3_putLines_36 : decode cX3_putLines 36 = .ok (.aload_n 0, 1) := by decide +kernel
theorem dX3_putLines_37 : decode cX3_putLines 37 = .ok (.getfield 15, 3) := by decide +kernel
theorem dX3_putLines_40 : decode cX3_putLines 40 = .ok (.iload_n 3, 1) := by decide +kernel
theorem dX3_putLines_41 : decode cX3_putLines 41 = .ok (.iaload, 1) := by decide +kernel
theorem dX3_putLines_42 : decode cX3_putLines 42 = .ok (.iconst (-1), 1) := by decide +kernel
theorem dX3_putLines_43 : decode cX3_putLines 43 = .ok (.if_icmp .ne 26, 3) := by decide +kernel
theorem dX3_putLines_46 : decode cX3_putLines 46 = .ok (.aload_n 0, 1) := by decide +kernel
theorem dX3_putLines_47 : decode cX3_putLines 47 = .ok (.getfield 15, 3) := by decide +kernel
theorem dX3_putLines_50 : decode cX3_putLines 50 = .ok (.iload_n 3, 1) := by decide +kernel
theorem dX3_putLines_51 : decode cX3_putLines 51 = .ok (.bipush 32, 2) := by decide +kernel
theorem dX3_putLines_53 : decode cX3_putLines 53 = .ok (.aload_n 0, 1) := by decide +kernel
theorem dX3_putLines_54 : decode cX3_putLines 54 = .ok (.getfield 21, 3) := by decide +kernel
theorem dX3_putLines_57 : decode cX3_putLines 57 = .ok (.imul, 1) := by decide +kernel
theorem dX3_putLines_58 : decode cX3_putLines 58 = .ok (.aload_n 0, 1) := by decide +kernel
theorem dX3_putLines_59 : decode cX3_putLines 59 = .ok (.getfield 9, 3) := by decide +kernel
theorem dX3_putLines_62 : decode cX3_putLines 62 = .ok (.aload_n 0, 1) := by decide +kernel
theorem dX3_putLines_63 : decode cX3_putLines 63 = .ok (.getfield 21, 3) := by decide +kernel
theorem dX3_putLines_66 : decode cX3_putLines 66 = .ok (.iaload, 1) := by decide +kernel
theorem dX3_putLines_67 : decode cX3_putLines 67 = .ok (.iadd, 1) := by decide +kernel
theorem dX3_putLines_68 : decode cX3_putLines 68 = .ok (.iastore, 1) := by decide +kernel
theorem dX3_putLines_69 : decode cX3_putLines 69 = .ok (.iconst 0, 1) := by decide +kernel
theorem dX3_putLines_70 : decode cX3_putLines 70 = .ok (.istore 5, 2) := by decide +kernel
theorem dX3_putLines_72 : decode cX3_putLines 72 = .ok (.iload 5, 2) := by decide +kernel
theorem dX3_putLines_74 : decode cX3_putLines 74 = .ok (.iload 4, 2) := by decide +kernel
theorem dX3_putLines_76 : decode cX3_putLines 76 = .ok (.if_icmp .ge 52, 3) := by decide +kernel
theorem dX3_putLines_79 : decode cX3_putLines 79 = .ok (.aload_n 0, 1) := by decide +kernel
theorem dX3_putLines_80 : decode cX3_putLines 80 = .ok (.getfield 36, 3) := by decide +kernel
theorem dX3_putLines_83 : decode cX3_putLines 83 = .ok (.aload_n 0, 1) := by decide +kernel
theorem dX3_putLines_84 : decode cX3_putLines 84 = .ok (.getfield 21, 3) := by decide +kernel
theorem dX3_putLines_87 : decode cX3_putLines 87 = .ok (.aload_n 0, 1) := by decide +kernel
theorem dX3_putLines_88 : decode cX3_putLines 88 = .ok (.getfield 33, 3) := by decide +kernel
theorem dX3_putLines_91 : decode cX3_putLines 91 = .ok (.imul, 1) := by decide +kernel
theorem dX3_putLines_92 : decode cX3_putLines 92 = .ok (.aload_n 0, 1) := by decide +kernel
theorem dX3_putLines_93 : decode cX3_putLines 93 = .ok (.getfield 9, 3) := by decide +kernel
theorem dX3_putLines_96 : decode cX3_putLines 96 = .ok (.aload_n 0, 1) := by decide +kernel
theorem dX3_putLines_97 : decode cX3_putLines 97 = .ok (.getfield 21, 3) := by decide +kernel
theorem dX3_putLines_100 : decode cX3_putLines 100 = .ok (.iaload, 1) := by decide +kernel
theorem dX3_putLines_101 : decode cX3_putLines 101 = .ok (.iadd, 1) := by decide +kernel
theorem dX3_putLines_102 : decode cX3_putLines 102 = .ok (.bipush 8, 2) := by decide +kernel
theorem dX3_putLines_104 : decode cX3_putLines 104 = .ok (.iload_n 1, 1) := by decide +kernel
theorem dX3_putLines_105 : decode cX3_putLines 105 = .ok (.imul, 1) := by decide +kernel
theorem dX3_putLines_106 : decode cX3_putLines 106 = .ok (.iload_n 2, 1) := by decide +kernel
theorem dX3_putLines_107 : decode cX3_putLines 107 = .ok (.iadd, 1) := by decide +kernel
theorem dX3_putLines_108 : decode cX3_putLines 108 = .ok (.iastore, 1) := by decide +kernel
theorem dX3_putLines_109 : decode cX3_putLines 109 = .ok (.aload_n 0, 1) := by decide +kernel
theorem dX3_putLines_110 : decode cX3_putLines 110 = .ok (.getfield 9, 3) := by decide +kernel
theorem dX3_putLines_113 : decode cX3_putLines 113 = .ok (.aload_n 0, 1) := by decide +kernel
theorem dX3_putLines_114 : decode cX3_putLines 114 = .ok (.getfield 21, 3) := by decide +kernel
theorem dX3_putLines_117 : decode cX3_putLines 117 = .ok (.dup2, 1) := by decide +kernel
theorem dX3_putLines_118 : decode cX3_putLines 118 = .ok (.iaload, 1) := by decide +kernel
theorem dX3_putLines_119 : decode cX3_putLines 119 = .ok (.iconst 1, 1) := by decide +kernel
theorem dX3_putLines_120 : decode cX3_putLines 120 = .ok (.iadd, 1) := by decide +kernel
theorem dX3_putLines_121 : decode cX3_putLines 121 = .ok (.iastore, 1) := by decide +kernel
theorem dX3_putLines_122 : decode cX3_putLines 122 = .ok (.iinc 5 1, 3) := by decide +kernel
theorem dX3_putLines_125 : decode cX3_putLines 125 = .ok (.goto (-53), 3) := by decide +kernel
theorem dX3_putLines_128 : decode cX3_putLines 128 = .ok (.return_, 1) := by decide +kernel
theorem dX4_init_0 : decode cX4_init 0 = .ok (.aload_n 0, 1) := by decide +kernel
theorem dX4_init_1 : decode cX4_init 1 = .ok (.invokespecial 3, 3) := by decide +kernel
theorem dX4_init_4 : decode cX4_init 4 = .ok (.aload_n 0, 1) := by decide +kernel
theorem dX4_init_5 : decode cX4_init 5 = .ok (.iconst (-1), 1) := by decide +kernel
theorem dX4_init_6 : decode cX4_init 6 = .ok (.putfield 9, 3) := by decide +kernel
theorem dX4_init_9 : decode cX4_init 9 = .ok (.aload_n 0, 1) := by decide +kernel
theorem dX4_init_10 : decode cX4_init 10 = .ok (.iload_n 1, 1) := by decide +kernel
theorem dX4_init_11 : decode cX4_init 11 = .ok (.putfield 15, 3) := by decide +kernel
theorem dX4_init_14 : decode cX4_init 14 = .ok (.aload_n 0, 1) := by decide +kernel
theorem dX4_init_15 : decode cX4_init 15 = .ok (.lload_n 2, 1) := by decide +kernel
theorem dX4_init_16 : decode cX4_init 16 = .ok (.putfield 19, 3) := by decide +kernel
theorem dX4_init_19 : decode cX4_init 19 = .ok (.aload_n 0, 1) := by decide +kernel
theorem dX4_init_20 : decode cX4_init 20 = .ok (.iload 4, 2) := by decide +kernel
theorem dX4_init_22 : decode cX4_init 22 = .ok (.putfield 23, 3) := by decide +kernel
theorem dX4_init_25 : decode cX4_init 25 = .ok (.aload_n 0, 1) := by decide +kernel
theorem dX4_init_26 : decode cX4_init 26 = .ok (.aconst_null, 1) := by decide +kernel
theorem dX4_init_27 : decode cX4_init 27 = .ok (.putfield 26, 3) := by decide +kernel
theorem dX4_init_30 : decode cX4_init 30 = .ok (.aload_n 0, 1) := by decide +kernel
theorem dX4_init_31 : decode cX4_init 31 = .ok (.aconst_null, 1) := by decide +kernel
theorem dX4_init_32 : decode cX4_init 32 = .ok (.putfield 30, 3) := by decide +kernel
theorem dX4_init_35 : decode cX4_init 35 = .ok (.aload_n 0, 1) := by decide +kernel
theorem dX4_init_36 : decode cX4_init 36 = .ok (.aconst_null, 1) := by decide +kernel
theorem dX4_init_37 : decode cX4_init 37 = .ok (.putfield 33, 3) := by decide +kernel
theorem dX4_init_40 : decode cX4_init 40 = .ok (.return_, 1) := by decide +kernel
theorem dX4_init__0 : decode cX4_init_ 0 = .ok (.aload_n 0, 1) := by decide +kernel
theorem dX4_init__1 : decode cX4_init_ 1 = .ok (.invokespecial 3, 3) := by decide +kernel
theorem dX4_init__4 : decode cX4_init_ 4 = .ok (.aload_n 0, 1) := by decide +kernel
theorem dX4_init__5 : decode cX4_init_ 5 = .ok (.iconst (-1), 1) := by decide +kernel
theorem dX4_init__6 : decode cX4_init_ 6 = .ok (.putfield 9, 3) := by decide +kernel
theorem dX4_init__9 : decode cX4_init_ 9 = .ok (.aload_n 0, 1) := by decide +kernel
theorem dX4_init__10 : decode cX4_init_ 10 = .ok (.iload_n 1, 1) := by decide +kernel
theorem dX4_init__11 : decode cX4_init_ 11 = .ok (.putfield 15, 3) := by decide +kernel
theorem dX4_init__14 : decode cX4_init_ 14 = .ok (.aload_n 0, 1) := by decide +kernel
theorem dX4_init__15 : decode cX4_init_ 15 = .ok (.lconst 0, 1) := by decide +kernel
theorem dX4_init__16 : decode cX4_init_ 16 = .ok (.putfield 19, 3) := by decide +kernel
theorem dX4_init__19 : decode cX4_init_ 19 = .ok (.aload_n 0, 1) := by decide +kernel
theorem dX4_init__20 : decode cX4_init_ 20 = .ok (.iconst 0, 1) := by decide +kernel
theorem dX4_init__21 : decode cX4_init_ 21 = .ok (.putfield 23, 3) := by decide +kernel
theorem dX4_init__24 : decode cX4_init_ 24 = .ok (.aload_n 0, 1) := by decide +kernel
theorem dX4_init__25 : decode cX4_init_ 25 = .ok (.aload_n 2, 1) := by decide +kernel
theorem dX4_init__26 : decode cX4_init_ 26 = .ok (.putfield 26, 3) := by decide +kernel
theorem dX4_init__29 : decode cX4_init_ 29 = .ok (.aload_n 0, 1) := by decide +kernel
theorem dX4_init__30 : decode cX4_init_ 30 = .ok (.aload_n 3, 1) := by decide +kernel
theorem dX4_init__31 : decode cX4_init_ 31 = .ok (.putfield 30, 3) := by decide +kernel
theorem dX4_init__34 : decode cX4_init_ 34 = .ok (.aload_n 0, 1) := by decide +kernel
theorem dX4_init__35 : decode cX4_init_ 35 = .ok (.aload 4, 2) := by decide +kernel
theorem dX4_init__37 : decode cX4_init_ 37 = .ok (.putfield 33, 3) := by decide +kernel
theorem dX4_init__40 : decode cX4_init_ 40 = .ok (.return_, 1) := by decide +kernel
theorem dX5_init_0 : decode cX5_init 0 = .ok (.aload_n 0, 1) := by decide +kernel
theorem dX5_init_1 : decode cX5_init 1 = .ok (.invokespecial 3, 3) := by decide +kernel
theorem dX5_init_4 : decode cX5_init 4 = .ok (.aload_n 0, 1) := by decide +kernel
theorem dX5_init_5 : decode cX5_init 5 = .ok (.bipush 60, 2) := by decide +kernel
theorem dX5_init_7 : decode cX5_init 7 = .ok (.newarray .char, 2) := by decide +kernel
theorem dX5_init_9 : decode cX5_init 9 = .ok (.putfield 9, 3) := by decide +kernel
theorem dX5_init_12 : decode cX5_init 12 = .ok (.aload_n 0, 1) := by decide +kernel
theorem dX5_init_13 : decode cX5_init 13 = .ok (.iconst 0, 1) := by decide +kernel
theorem dX5_init_14 : decode cX5_init 14 = .ok (.putfield 15, 3) := by decide +kernel
theorem dX5_init_17 : decode cX5_init 17 = .ok (.aload_n 0, 1) := by decide +kernel
theorem dX5_init_18 : decode cX5_init 18 = .ok (.iconst 0, 1) := by decide +kernel
theorem dX5_init_19 : decode cX5_init 19 = .ok (.putfield 19, 3) := by decide +kernel
theorem dX5_init_22 : decode cX5_init 22 = .ok (.return_, 1) := by decide +kernel
theorem dX5_append_0 : decode cX5_append 0 = .ok (.iconst 0, 1) := by decide +kernel
theorem dX5_append_1 : decode cX5_append 1 = .ok (.istore_n 3, 1) := by decide +kernel
theorem dX5_append_2 : decode cX5_append 2 = .ok (.bipush 56, 2) := by decide +kernel
theorem dX5_append_4 : decode cX5_append 4 = .ok (.istore 4, 2) := by decide +kernel
theorem dX5_append_6 : decode cX5_append 6 = .ok (.iload 4, 2) := by decide +kernel
theorem dX5_append_8 : decode cX5_append 8 = .ok (.ifCond .lt 51, 3) := by decide +kernel
theorem dX5_append_11 : decode cX5_append 11 = .ok (.lload_n 1, 1) := by decide +kernel
theorem dX5_append_12 : decode cX5_append 12 = .ok (.iload 4, 2) := by decide +kernel
theorem dX5_append_14 : decode cX5_append 14 = .ok (.invokestatic 22, 3) := by decide +kernel
theorem dX5_append_17 : decode cX5_append 17 = .ok (.istore 5, 2) := by decide +kernel
theorem dX5_append_19 : decode cX5_append 19 = .ok (.iload 5, 2) := by decide +kernel
theorem dX5_append_21 : decode cX5_append 21 = .ok (.ifCond .eq 19, 3) := by decide +kernel
theorem dX5_append_24 : decode cX5_append 24 = .ok (.iload 5, 2) := by decide +kernel
theorem dX5_append_26 : decode cX5_append 26 = .ok (.bipush 32, 2) := by decide +kernel
theorem dX5_append_28 : decode cX5_append 28 = .ok (.if_icmp .lt 10, 3) := by decide +kernel
theorem dX5_append_31 : decode cX5_append 31 = .ok (.iload 5, 2) := by decide +kernel
theorem dX5_append_33 : decode cX5_append 33 = .ok (.bipush 126, 2) := by decide +kernel
theorem dX5_append_35 : decode cX5_append 35 = .ok (.if_icmp .le 5, 3) := by decide +kernel
theorem dX5_append_38 : decode cX5_append 38 = .ok (.iconst 0, 1) := by decide +kernel
theorem dX5_append_39 : decode cX5_append 39 = .ok (.ireturn, 1) := by decide +kernel
theorem dX5_append_40 : decode cX5_append 40 = .ok (.iload_n 3, 1) := by decide +kernel
theorem dX5_append_41 : decode cX5_append 41 = .ok (.iload 5, 2) := by decide +kernel
theorem dX5_append_43 : decode cX5_append 43 = .ok (.ifCond .eq 7, 3) := by decide +kernel
theorem dX5_append_46 : decode cX5_append 46 = .ok (.iconst 1, 1) := by decide +kernel
theorem dX5_append_47 : decode cX5_append 47 = .ok (.goto 4, 3) := by decide +kernel
theorem dX5_append_50 : decode cX5_append 50 = .ok (.iconst 0, 1) := by decide +kernel
theorem dX5_append_51 : decode cX5_append 51 = .ok (.iadd, 1) := by decide +kernel
theorem dX5_append_52 : decode cX5_append 52 = .ok (.istore_n 3, 1) := by decide +kernel
theorem dX5_append_53 : decode cX5_append 53 = .ok (.iinc 4 (-8), 3) := by decide +kernel
theorem dX5_append_56 : decode cX5_append 56 = .ok (.goto (-50), 3) := by decide +kernel
theorem dX5_append_59 : decode cX5_append 59 = .ok (.iload_n 3, 1) := by decide +kernel
theorem dX5_append_60 : decode cX5_append 60 = .ok (.bipush 60, 2) := by decide +kernel
theorem dX5_append_62 : decode cX5_append 62 = .ok (.aload_n 0, 1) := by decide +kernel
theorem dX5_append_63 : decode cX5_append 63 = .ok (.getfield 15, 3) := by decide +kernel
theorem dX5_append_66 : decode cX5_append 66 = .ok (.isub, 1) := by decide +kernel
theorem dX5_append_67 : decode cX5_append 67 = .ok (.if_icmp .le 5, 3) := by decide +kernel
theorem dX5_append_70 : decode cX5_append 70 = .ok (.iconst 0, 1) := by decide +kernel
theorem dX5_append_71 : decode cX5_append 71 = .ok (.ireturn, 1) := by decide +kernel
theorem dX5_append_72 : decode cX5_append 72 = .ok (.bipush 56, 2) := by decide +kernel
theorem dX5_append_74 : decode cX5_append 74 = .ok (.istore 4, 2) := by decide +kernel
theorem dX5_append_76 : decode cX5_append 76 = .ok (.iload 4, 2) := by decide +kernel
theorem dX5_append_78 : decode cX5_append 78 = .ok (.ifCond .lt 53, 3) := by decide +kernel
theorem dX5_append_81 : decode cX5_append 81 = .ok (.lload_n 1, 1) := by decide +kernel
theorem dX5_append_82 : decode cX5_append 82 = .ok (.iload 4, 2) := by decide +kernel
theorem dX5_append_84 : decode cX5_append 84 = .ok (.invokestatic 22, 3) := by decide +kernel
theorem dX5_append_87 : decode cX5_append 87 = .ok (.istore 5, 2) := by decide +kernel
theorem dX5_append_89 : decode cX5_append 89 = .ok (.iload 5, 2) := by decide +kernel
theorem dX5_append_91 : decode cX5_append 91 = .ok (.ifCond .eq 34, 3) := by decide +kernel
theorem dX5_append_94 : decode cX5_append 94 = .ok (.aload_n 0, 1) := by decide +kernel
theorem dX5_append_95 : decode cX5_append 95 = .ok (.getfield 15, 3) := by decide +kernel
theorem dX5_append_98 : decode cX5_append 98 = .ok (.bipush 60, 2) := by decide +kernel
theorem dX5_append_100 : decode cX5_append 100 = .ok (.if_icmp .ge 25, 3) := by decide +kernel
theorem dX5_append_103 : decode cX5_append 103 = .ok (.aload_n 0, 1) := by decide +kernel
theorem dX5_append_104 : decode cX5_append 104 = .ok (.getfield 9, 3) := by decide +kernel
theorem dX5_append_107 : decode cX5_append 107 = .ok (.aload_n 0, 1) := by decide +kernel
theorem dX5_append_108 : decode cX5_append 108 = .ok (.getfield 15, 3) := by decide +kernel
theorem dX5_append_111 : decode cX5_append 111 = .ok (.iload 5, 2) := by decide +kernel
theorem dX5_append_113 : decode cX5_append 113 = .ok (.i2c, 1) := by decide +kernel
theorem dX5_append_114 : decode cX5_append 114 = .ok (.castore, 1) := by decide +kernel
theorem dX5_append_115 : decode cX5_append 115 = .ok (.aload_n 0, 1) := by decide +kernel
theorem dX5_append_116 : decode cX5_append 116 = .ok (.dup, 1) := by decide +kernel
theorem dX5_append_117 : decode cX5_append 117 = .ok (.getfield 15, 3) := by decide +kernel
theorem dX5_append_120 : decode cX5_append 120 = .ok (.iconst 1, 1) := by decide +kernel
theorem dX5_append_121 : decode cX5_append 121 = .ok (.iadd, 1) := by decide +kernel
theorem dX5_append_122 : decode cX5_append 122 = .ok (.putfield 15, 3) := by decide +kernel
theorem dX5_append_125 : decode cX5_append 125 = .ok (.iinc 4 (-8), 3) := by decide +kernel
theorem dX5_append_128 : decode cX5_append 128 = .ok (.goto (-52), 3) := by decide +kernel
theorem dX5_append_131 : decode cX5_append 131 = .ok (.iconst 1, 1) := by decide +kernel
theorem dX5_append_132 : decode cX5_append 132 = .ok (.ireturn, 1) := by decide +kernel
theorem dX5_takeItem_0 : decode cX5_takeItem 0 = .ok (.aload_n 0, 1) := by decide +kernel
theorem dX5_takeItem_1 : decode cX5_takeItem 1 = .ok (.iconst 0, 1) := by decide +kernel
theorem dX5_takeItem_2 : decode cX5_takeItem 2 = .ok (.putfield 19, 3) := by decide +kernel
theorem dX5_takeItem_5 : decode cX5_takeItem 5 = .ok (.aconst_null, 1) := by decide +kernel
theorem dX5_takeItem_6 : decode cX5_takeItem 6 = .ok (.astore_n 1, 1) := by decide +kernel
theorem dX5_takeItem_7 : decode cX5_takeItem 7 = .ok (.aload_n 0, 1) := by decide +kernel
theorem dX5_takeItem_8 : decode cX5_takeItem 8 = .ok (.invokevirtual 26, 3) := by decide +kernel
theorem dX5_takeItem_11 : decode cX5_takeItem 11 = .ok (.invokestatic 30, 3) := by decide +kernel
theorem dX5_takeItem_14 : decode cX5_takeItem 14 = .ok (.ifCond .eq 11, 3) := by decide +kernel
theorem dX5_takeItem_17 : decode cX5_takeItem 17 = .ok (.aload_n 0, 1) := by decide +kernel
theorem dX5_takeItem_18 : decode cX5_takeItem 18 = .ok (.invokevirtual 34, 3) := by decide +kernel
theorem dX5_takeItem_21 : decode cX5_takeItem 21 = .ok (.astore_n 1, 1) := by decide +kernel
theorem dX5_takeItem_22 : decode cX5_takeItem 22 = .ok (.goto 34, 3) := by decide +kernel
theorem dX5_takeItem_25 : decode cX5_takeItem 25 = .ok (.aload_n 0, 1) := by decide +kernel
theorem dX5_takeItem_26 : decode cX5_takeItem 26 = .ok (.bipush 33, 2) := by decide +kernel
theorem dX5_takeItem_28 : decode cX5_takeItem 28 = .ok (.invokevirtual 38, 3) := by decide +kernel
theorem dX5_takeItem_31 : decode cX5_takeItem 31 = .ok (.ifCond .eq 11, 3) := by decide +kernel
theorem dX5_takeItem_34 : decode cX5_takeItem 34 = .ok (.aload_n 0, 1) := by decide +kernel
theorem dX5_takeItem_35 : decode cX5_takeItem 35 = .ok (.invokevirtual 41, 3) := by decide +kernel
theorem dX5_takeItem_38 : decode cX5_takeItem 38 = .ok (.astore_n 1, 1) := by decide +kernel
theorem dX5_takeItem_39 : decode cX5_takeItem 39 = .ok (.goto 17, 3) := by decide +kernel
theorem dX5_takeItem_42 : decode cX5_takeItem 42 = .ok (.aload_n 0, 1) := by decide +kernel
theorem dX5_takeItem_43 : decode cX5_takeItem 43 = .ok (.bipush 34, 2) := by decide +kernel
theorem dX5_takeItem_45 : decode cX5_takeItem 45 = .ok (.invokevirtual 38, 3) := by decide +kernel
theorem dX5_takeItem_48 : decode cX5_takeItem 48 = .ok (.ifCond .eq 8, 3) := by decide +kernel
theorem dX5_takeItem_51 : decode cX5_takeItem 51 = .ok (.aload_n 0, 1) := by decide +kernel
theorem dX5_takeItem_52 : decode cX5_takeItem 52 = .ok (.invokevirtual 44, 3) := by decide +kernel
theorem dX5_takeItem_55 : decode cX5_takeItem 55 = .ok (.astore_n 1, 1) := by decide +kernel
theorem dX5_takeItem_56 : decode cX5_takeItem 56 = .ok (.aload_n 0, 1) := by decide +kernel
theorem dX5_takeItem_57 : decode cX5_takeItem 57 = .ok (.getfield 19, 3) := by decide +kernel
theorem dX5_takeItem_60 : decode cX5_takeItem 60 = .ok (.aload_n 0, 1) := by decide +kernel
theorem dX5_takeItem_61 : decode cX5_takeItem 61 = .ok (.getfield 15, 3) := by decide +kernel
theorem dX5_takeItem_64 : decode cX5_takeItem 64 = .ok (.if_icmp .ne 7, 3) := by decide +kernel
theorem dX5_takeItem_67 : decode cX5_takeItem 67 = .ok (.iconst 1, 1) := by decide +kernel
theorem dX5_takeItem_68 : decode cX5_takeItem 68 = .ok (.goto 4, 3) := by decide +kernel
theorem dX5_takeItem_71 : decode cX5_takeItem 71 = .ok (.iconst 0, 1) := by decide +kernel
theorem dX5_takeItem_72 : decode cX5_takeItem 72 = .ok (.istore_n 2, 1) := by decide +kernel
theorem dX5_takeItem_73 : decode cX5_takeItem 73 = .ok (.aload_n 0, 1) := by decide +kernel
theorem dX5_takeItem_74 : decode cX5_takeItem 74 = .ok (.iconst 0, 1) := by decide +kernel
theorem dX5_takeItem_75 : decode cX5_takeItem 75 = .ok (.putfield 15, 3) := by decide +kernel
theorem dX5_takeItem_78 : decode cX5_takeItem 78 = .ok (.iload_n 2, 1) := by decide +kernel
theorem dX5_takeItem_79 : decode cX5_takeItem 79 = .ok (.ifCond .eq 7, 3) := by decide +kernel
theorem dX5_takeItem_82 : decode cX5_takeItem 82 = .ok (.aload_n 1, 1) := by decide +kernel
theorem dX5_takeItem_83 : decode cX5_takeItem 83 = .ok (.goto 4, 3) := by decide +kernel
theorem dX5_takeItem_86 : decode cX5_takeItem 86 = .ok (.aconst_null, 1) := by decide +kernel
theorem dX5_takeItem_87 : decode cX5_takeItem 87 = .ok (.areturn, 1) := by decide +kernel
theorem dX5_reached_0 : decode cX5_reached 0 = .ok (.aload_n 0, 1) := by decide +kernel
theorem dX5_reached_1 : decode cX5_reached 1 = .ok (.getfield 19, 3) := by decide +kernel
theorem dX5_reached_4 : decode cX5_reached 4 = .ok (.ireturn, 1) := by decide +kernel
theorem dX5_codeIn_0 : decode cX5_codeIn 0 = .ok (.lload_n 0, 1) := by decide +kernel
theorem dX5_codeIn_1 : decode cX5_codeIn 1 = .ok (.iload_n 2, 1) := by decide +kernel
theorem dX5_codeIn_2 : decode cX5_codeIn 2 = .ok (.lushr, 1) := by decide +kernel
theorem dX5_codeIn_3 : decode cX5_codeIn 3 = .ok (.ldc2_w 47, 3) := by decide +kernel
theorem dX5_codeIn_6 : decode cX5_codeIn 6 = .ok (.land, 1) := by decide +kernel
theorem dX5_codeIn_7 : decode cX5_codeIn 7 = .ok (.l2i, 1) := by decide +kernel
theorem dX5_codeIn_8 : decode cX5_codeIn 8 = .ok (.ireturn, 1) := by decide +kernel
theorem dX5_fieldItem_0 : decode cX5_fieldItem 0 = .ok (.aload_n 0, 1) := by decide +kernel
theorem dX5_fieldItem_1 : decode cX5_fieldItem 1 = .ok (.invokevirtual 49, 3) := by decide +kernel
theorem dX5_fieldItem_4 : decode cX5_fieldItem 4 = .ok (.istore_n 1, 1) := by decide +kernel
theorem dX5_fieldItem_5 : decode cX5_fieldItem 5 = .ok (.aload_n 0, 1) := by decide +kernel
theorem dX5_fieldItem_6 : decode cX5_fieldItem 6 = .ok (.bipush 42, 2) := by decide +kernel
theorem dX5_fieldItem_8 : decode cX5_fieldItem 8 = .ok (.invokevirtual 38, 3) := by decide +kernel
theorem dX5_fieldItem_11 : decode cX5_fieldItem 11 = .ok (.istore_n 2, 1) := by decide +kernel
theorem dX5_fieldItem_12 : decode cX5_fieldItem 12 = .ok (.aload_n 0, 1) := by decide +kernel
theorem dX5_fieldItem_13 : decode cX5_fieldItem 13 = .ok (.bipush 61, 2) := by decide +kernel
theorem dX5_fieldItem_15 : decode cX5_fieldItem 15 = .ok (.invokevirtual 38, 3) := by decide +kernel
theorem dX5_fieldItem_18 : decode cX5_fieldItem 18 = .ok (.ifCond .ne 17, 3) := by decide +kernel
theorem dX5_fieldItem_21 : decode cX5_fieldItem 21 = .ok (.new 53, 3) := by decide +kernel
theorem dX5_fieldItem_24 : decode cX5_fieldItem 24 = .ok (.dup, 1) := by decide +kernel
theorem dX5_fieldItem_25 : decode cX5_fieldItem 25 = .ok (.bipush 102, 2) := by decide +kernel
theorem dX5_fieldItem_27 : decode cX5_fieldItem 27 = .ok (.iload_n 1, 1) := by decide +kernel
theorem dX5_fieldItem_28 : decode cX5_fieldItem 28 = .ok (.iload_n 2, 1) := by decide +kernel
theorem dX5_fieldItem_29 : decode cX5_fieldItem 29 = .ok (.aconst_null, 1) := by decide +kernel
theorem dX5_fieldItem_30 : decode cX5_fieldItem 30 = .ok (.iconst 0, 1) := by decide +kernel
theorem dX5_fieldItem_31 : decode cX5_fieldItem 31 = .ok (.invokespecial 55, 3) := by decide +kernel
theorem dX5_fieldItem_34 : decode cX5_fieldItem 34 = .ok (.areturn, 1) := by decide +kernel
theorem dX5_fieldItem_35 : decode cX5_fieldItem 35 = .ok (.aload_n 0, 1) := by decide +kernel
theorem dX5_fieldItem_36 : decode cX5_fieldItem 36 = .ok (.iconst 0, 1) := by decide +kernel
theorem dX5_fieldItem_37 : decode cX5_fieldItem 37 = .ok (.invokevirtual 58, 3) := by decide +kernel
theorem dX5_fieldItem_40 : decode cX5_fieldItem 40 = .ok (.astore_n 3, 1) := by decide +kernel
theorem dX5_fieldItem_41 : decode cX5_fieldItem 41 = .ok (.aload_n 3, 1) := by decide +kernel
theorem dX5_fieldItem_42 : decode cX5_fieldItem 42 = .ok (.ifnonnull 7, 3) := by decide +kernel
theorem dX5_fieldItem_45 : decode cX5_fieldItem 45 = .ok (.aconst_null, 1) := by decide +kernel
theorem dX5_fieldItem_46 : decode cX5_fieldItem 46 = .ok (.goto 16, 3) := by decide +kernel
theorem dX5_fieldItem_49 : decode cX5_fieldItem 49 = .ok (.new 53, 3) := by decide +kernel
theorem dX5_fieldItem_52 : decode cX5_fieldItem 52 = .ok (.dup, 1) := by decide +kernel
theorem dX5_fieldItem_53 : decode cX5_fieldItem 53 = .ok (.bipush 102, 2) := by decide +kernel
theorem dX5_fieldItem_55 : decode cX5_fieldItem 55 = .ok (.iload_n 1, 1) := by decide +kernel
theorem dX5_fieldItem_56 : decode cX5_fieldItem 56 = .ok (.iload_n 2, 1) := by decide +kernel
theorem dX5_fieldItem_57 : decode cX5_fieldItem 57 = .ok (.aload_n 3, 1) := by decide +kernel
theorem dX5_fieldItem_58 : decode cX5_fieldItem 58 = .ok (.iconst 0, 1) := by decide +kernel
theorem dX5_fieldItem_59 : decode cX5_fieldItem 59 = .ok (.invokespecial 55, 3) := by decide +kernel
theorem dX5_fieldItem_62 : decode cX5_fieldItem 62 = .ok (.areturn, 1) := by decide +kernel
theorem dX5_checkItem_0 : decode cX5_checkItem 0 = .ok (.aload_n 0, 1) := by decide +kernel
theorem dX5_checkItem_1 : decode cX5_checkItem 1 = .ok (.bipush 42, 2) := by decide +kernel
theorem dX5_checkItem_3 : decode cX5_checkItem 3 = .ok (.invokevirtual 38, 3) := by decide +kernel
theorem dX5_checkItem_6 : decode cX5_checkItem 6 = .ok (.istore_n 1, 1) := by decide +kernel
theorem dX5_checkItem_7 : decode cX5_checkItem 7 = .ok (.aload_n 0, 1) := by decide +kernel
theorem dX5_checkItem_8 : decode cX5_checkItem 8 = .ok (.iconst 0, 1) := by decide +kernel
theorem dX5_checkItem_9 : decode cX5_checkItem 9 = .ok (.invokevirtual 58, 3) := by decide +kernel
theorem dX5_checkItem_12 : decode cX5_checkItem 12 = .ok (.astore_n 2, 1) := by decide +kernel
theorem dX5_checkItem_13 : decode cX5_checkItem 13 = .ok (.aload_n 2, 1) := by decide +kernel
theorem dX5_checkItem_14 : decode cX5_checkItem 14 = .ok (.ifnonnull 7, 3) := by decide +kernel
theorem dX5_checkItem_17 : decode cX5_checkItem 17 = .ok (.aconst_null, 1) := by decide +kernel
theorem dX5_checkItem_18 : decode cX5_checkItem 18 = .ok (.goto 16, 3) := by decide +kernel
theorem dX5_checkItem_21 : decode cX5_checkItem 21 = .ok (.new 53, 3) := by decide +kernel
theorem dX5_checkItem_24 : decode cX5_checkItem 24 = .ok (.dup, 1) := by decide +kernel
theorem dX5_checkItem_25 : decode cX5_checkItem 25 = .ok (.bipush 33, 2) := by decide +kernel
theorem dX5_checkItem_27 : decode cX5_checkItem 27 = .ok (.iconst 0, 1) := by decide +kernel
theorem dX5_checkItem_28 : decode cX5_checkItem 28 = .ok (.iload_n 1, 1) := by decide +kernel
theorem dX5_checkItem_29 : decode cX5_checkItem 29 = .ok (.aload_n 2, 1) := by decide +kernel
theorem dX5_checkItem_30 : decode cX5_checkItem 30 = .ok (.iconst 0, 1) := by decide +kernel
theorem dX5_checkItem_31 : decode cX5_checkItem 31 = .ok (.invokespecial 55, 3) := by decide +kernel
theorem dX5_checkItem_34 : decode cX5_checkItem 34 = .ok (.areturn, 1) := by decide +kernel
theorem dX5_captionItem_0 : decode cX5_captionItem 0 = .ok (.aload_n 0, 1) := by decide +kernel
theorem dX5_captionItem_1 : decode cX5_captionItem 1 = .ok (.getfield 15, 3) := by decide +kernel
theorem dX5_captionItem_4 : decode cX5_captionItem 4 = .ok (.aload_n 0, 1) := by decide +kernel
theorem dX5_captionItem_5 : decode cX5_captionItem 5 = .ok (.getfield 19, 3) := by decide +kernel
theorem dX5_captionItem_8 : decode cX5_captionItem 8 = .ok (.isub, 1) := by decide +kernel
theorem dX5_captionItem_9 : decode cX5_captionItem 9 = .ok (.bipush 36, 2) := by decide +kernel
theorem dX5_captionItem_11 : decode cX5_captionItem 11 = .ok (.invokestatic 62, 3) := by decide +kernel
theorem dX5_captionItem_14 : decode cX5_captionItem 14 = .ok (.istore_n 1, 1) := by decide +kernel
theorem dX5_captionItem_15 : decode cX5_captionItem 15 = .ok (.aload_n 0, 1) := by decide +kernel
theorem dX5_captionItem_16 : decode cX5_captionItem 16 = .ok (.dup, 1) := by decide +kernel
theorem dX5_captionItem_17 : decode cX5_captionItem 17 = .ok (.getfield 19, 3) := by decide +kernel
theorem dX5_captionItem_20 : decode cX5_captionItem 20 = .ok (.iload_n 1, 1) := by decide +kernel
theorem dX5_captionItem_21 : decode cX5_captionItem 21 = .ok (.iadd, 1) := by decide +kernel
theorem dX5_captionItem_22 : decode cX5_captionItem 22 = .ok (.putfield 19, 3) := by decide +kernel
theorem dX5_captionItem_25 : decode cX5_captionItem 25 = .ok (.iload_n 1, 1) := by decide +kernel
theorem dX5_captionItem_26 : decode cX5_captionItem 26 = .ok (.bipush 12, 2) := by decide +kernel
theorem dX5_captionItem_28 : decode cX5_captionItem 28 = .ok (.iadd, 1) := by decide +kernel
theorem dX5_captionItem_29 : decode cX5_captionItem 29 = .ok (.iconst 1, 1) := by decide +kernel
theorem dX5_captionItem_30 : decode cX5_captionItem 30 = .ok (.isub, 1) := by decide +kernel
theorem dX5_captionItem_31 : decode cX5_captionItem 31 = .ok (.bipush 12, 2) := by decide +kernel
theorem dX5_captionItem_33 : decode cX5_captionItem 33 = .ok (.idiv, 1) := by decide +kernel
theorem dX5_captionItem_34 : decode cX5_captionItem 34 = .ok (.istore_n 2, 1) := by decide +kernel
theorem dX5_captionItem_35 : decode cX5_captionItem 35 = .ok (.iload_n 1, 1) := by decide +kernel
theorem dX5_captionItem_36 : decode cX5_captionItem 36 = .ok (.ifCond .ne 7, 3) := by decide +kernel
theorem dX5_captionItem_39 : decode cX5_captionItem 39 = .ok (.aconst_null, 1) := by decide +kernel
theorem dX5_captionItem_40 : decode cX5_captionItem 40 = .ok (.goto 16, 3) := by decide +kernel
theorem dX5_captionItem_43 : decode cX5_captionItem 43 = .ok (.new 53, 3) := by decide +kernel
theorem dX5_captionItem_46 : decode cX5_captionItem 46 = .ok (.dup, 1) := by decide +kernel
theorem dX5_captionItem_47 : decode cX5_captionItem 47 = .ok (.bipush 34, 2) := by decide +kernel
theorem dX5_captionItem_49 : decode cX5_captionItem 49 = .ok (.iconst 0, 1) := by decide +kernel
theorem dX5_captionItem_50 : decode cX5_captionItem 50 = .ok (.iconst 0, 1) := by decide +kernel
theorem dX5_captionItem_51 : decode cX5_captionItem 51 = .ok (.aconst_null, 1) := by decide +kernel
theorem dX5_captionItem_52 : decode cX5_captionItem 52 = .ok (.iload_n 2, 1) := by decide +kernel
theorem dX5_captionItem_53 : decode cX5_captionItem 53 = .ok (.invokespecial 55, 3) := by decide +kernel
theorem dX5_captionItem_56 : decode cX5_captionItem 56 = .ok (.areturn, 1) := by decide +kernel
theorem dX5_expression_0 : decode cX5_expression 0 = .ok (.aload_n 0, 1) := by decide +kernel
theorem dX5_expression_1 : decode cX5_expression 1 = .ok (.invokevirtual 26, 3) := by decide +kernel
theorem dX5_expression_4 : decode cX5_expression 4 = .ok (.invokestatic 68, 3) := by decide +kernel
theorem dX5_expression_7 : decode cX5_expression 7 = .ok (.ifCond .eq 8, 3) := by decide +kernel
theorem dX5_expression_10 : decode cX5_expression 10 = .ok (.aload_n 0, 1) := by decide +kernel
theorem dX5_expression_11 : decode cX5_expression 11 = .ok (.invokevirtual 71, 3) := by decide +kernel
theorem dX5_expression_14 : decode cX5_expression 14 = .ok (.areturn, 1) := by decide +kernel
theorem dX5_expression_15 : decode cX5_expression 15 = .ok (.aload_n 0, 1) := by decide +kernel
theorem dX5_expression_16 : decode cX5_expression 16 = .ok (.invokevirtual 26, 3) := by decide +kernel
theorem dX5_expression_19 : decode cX5_expression 19 = .ok (.invokestatic 30, 3) := by decide +kernel
theorem dX5_expression_22 : decode cX5_expression 22 = .ok (.ifCond .eq 18, 3) := by decide +kernel
theorem dX5_expression_25 : decode cX5_expression 25 = .ok (.new 75, 3) := by decide +kernel
theorem dX5_expression_28 : decode cX5_expression 28 = .ok (.dup, 1) := by decide +kernel
theorem dX5_expression_29 : decode cX5_expression 29 = .ok (.bipush 97, 2) := by decide +kernel
theorem dX5_expression_31 : decode cX5_expression 31 = .ok (.lconst 0, 1) := by decide +kernel
theorem dX5_expression_32 : decode cX5_expression 32 = .ok (.aload_n 0, 1) := by decide +kernel
theorem dX5_expression_33 : decode cX5_expression 33 = .ok (.invokevirtual 49, 3) := by decide +kernel
theorem dX5_expression_36 : decode cX5_expression 36 = .ok (.invokespecial 77, 3) := by decide +kernel
theorem dX5_expression_39 : decode cX5_expression 39 = .ok (.areturn, 1) := by decide +kernel
theorem dX5_expression_40 : decode cX5_expression 40 = .ok (.aload_n 0, 1) := by decide +kernel
theorem dX5_expression_41 : decode cX5_expression 41 = .ok (.bipush 35, 2) := by decide +kernel
theorem dX5_expression_43 : decode cX5_expression 43 = .ok (.invokevirtual 38, 3) := by decide +kernel
theorem dX5_expression_46 : decode cX5_expression 46 = .ok (.ifCond .eq 32, 3) := by decide +kernel
theorem dX5_expression_49 : decode cX5_expression 49 = .ok (.aload_n 0, 1) := by decide +kernel
theorem dX5_expression_50 : decode cX5_expression 50 = .ok (.invokevirtual 26, 3) := by decide +kernel
theorem dX5_expression_53 : decode cX5_expression 53 = .ok (.invokestatic 30, 3) := by decide +kernel
theorem dX5_expression_56 : decode cX5_expression 56 = .ok (.ifCond .eq 20, 3) := by decide +kernel
theorem dX5_expression_59 : decode cX5_expression 59 = .ok (.new 75, 3) := by decide +kernel
theorem dX5_expression_62 : decode cX5_expression 62 = .ok (.dup, 1) := by decide +kernel
theorem dX5_expression_63 : decode cX5_expression 63 = .ok (.bipush 35, 2) := by decide +kernel
theorem dX5_expression_65 : decode cX5_expression 65 = .ok (.lconst 0, 1) := by decide +kernel
theorem dX5_expression_66 : decode cX5_expression 66 = .ok (.aload_n 0, 1) := by decide +kernel
theorem dX5_expression_67 : decode cX5_expression 67 = .ok (.invokevirtual 49, 3) := by decide +kernel
theorem dX5_expression_70 : decode cX5_expression 70 = .ok (.invokespecial 77, 3) := by decide +kernel
theorem dX5_expression_73 : decode cX5_expression 73 = .ok (.goto 4, 3) := by decide +kernel
theorem dX5_expression_76 : decode cX5_expression 76 = .ok (.aconst_null, 1) := by decide +kernel
theorem dX5_expression_77 : decode cX5_expression 77 = .ok (.areturn, 1) := by decide +kernel
theorem dX5_expression_78 : decode cX5_expression 78 = .ok (.iload_n 1, 1) := by decide +kernel
theorem dX5_expression_79 : decode cX5_expression 79 = .ok (.bipush 6, 2) := by decide +kernel
theorem dX5_expression_81 : decode cX5_expression 81 = .ok (.if_icmp .ge 22, 3) := by decide +kernel
theorem dX5_expression_84 : decode cX5_expression 84 = .ok (.aload_n 0, 1) := by decide +kernel
theorem dX5_expression_85 : decode cX5_expression 85 = .ok (.bipush 40, 2) := by decide +kernel
theorem dX5_expression_87 : decode cX5_expression 87 = .ok (.invokevirtual 38, 3) := by decide +kernel
theorem dX5_expression_90 : decode cX5_expression 90 = .ok (.ifCond .eq 13, 3) := by decide +kernel
theorem dX5_expression_93 : decode cX5_expression 93 = .ok (.aload_n 0, 1) := by decide +kernel
theorem dX5_expression_94 : decode cX5_expression 94 = .ok (.iload_n 1, 1) := by decide +kernel
theorem dX5_expression_95 : decode cX5_expression 95 = .ok (.iconst 1, 1) := by decide +kernel
theorem dX5_expression_96 : decode cX5_expression 96 = .ok (.iadd, 1) := by decide +kernel
theorem dX5_expression_97 : decode cX5_expression 97 = .ok (.invokevirtual 80, 3) := by decide +kernel
theorem dX5_expression_100 : decode cX5_expression 100 = .ok (.goto 4, 3) := by decide +kernel
theorem dX5_expression_103 : decode cX5_expression 103 = .ok (.aconst_null, 1) := by decide +kernel
theorem dX5_expression_104 : decode cX5_expression 104 = .ok (.areturn, 1) := by decide +kernel
theorem dX5_inBrackets_0 : decode cX5_inBrackets 0 = .ok (.aload_n 0, 1) := by decide +kernel
theorem dX5_inBrackets_1 : decode cX5_inBrackets 1 = .ok (.iload_n 1, 1) := by decide +kernel
theorem dX5_inBrackets_2 : decode cX5_inBrackets 2 = .ok (.invokevirtual 58, 3) := by decide +kernel
theorem dX5_inBrackets_5 : decode cX5_inBrackets 5 = .ok (.astore_n 2, 1) := by decide +kernel
theorem dX5_inBrackets_6 : decode cX5_inBrackets 6 = .ok (.aload_n 0, 1) := by decide +kernel
theorem dX5_inBrackets_7 : decode cX5_inBrackets 7 = .ok (.invokevirtual 26, 3) := by decide +kernel
theorem dX5_inBrackets_10 : decode cX5_inBrackets 10 = .ok (.istore_n 3, 1) := by decide +kernel
theorem dX5_inBrackets_11 : decode cX5_inBrackets 11 = .ok (.aload_n 2, 1) := by decide +kernel
theorem dX5_inBrackets_12 : decode cX5_inBrackets 12 = .ok (.ifnull 18, 3) := by decide +kernel
theorem dX5_inBrackets_15 : decode cX5_inBrackets 15 = .ok (.iload_n 3, 1) := by decide +kernel
theorem dX5_inBrackets_16 : decode cX5_inBrackets 16 = .ok (.invokestatic 83, 3) := by decide +kernel
theorem dX5_inBrackets_19 : decode cX5_inBrackets 19 = .ok (.ifCond .eq 11, 3) := by decide +kernel
theorem dX5_inBrackets_22 : decode cX5_inBrackets 22 = .ok (.aload_n 0, 1) := by decide +kernel
theorem dX5_inBrackets_23 : decode cX5_inBrackets 23 = .ok (.iload_n 3, 1) := by decide +kernel
theorem dX5_inBrackets_24 : decode cX5_inBrackets 24 = .ok (.invokevirtual 38, 3) := by decide +kernel
theorem dX5_inBrackets_27 : decode cX5_inBrackets 27 = .ok (.ifCond .ne 5, 3) := by decide +kernel
theorem dX5_inBrackets_30 : decode cX5_inBrackets 30 = .ok (.aconst_null, 1) := by decide +kernel
theorem dX5_inBrackets_31 : decode cX5_inBrackets 31 = .ok (.areturn, 1) := by decide +kernel
theorem dX5_inBrackets_32 : decode cX5_inBrackets 32 = .ok (.aload_n 0, 1) := by decide +kernel
theorem dX5_inBrackets_33 : decode cX5_inBrackets 33 = .ok (.iload_n 1, 1) := by decide +kernel
theorem dX5_inBrackets_34 : decode cX5_inBrackets 34 = .ok (.invokevirtual 58, 3) := by decide +kernel
theorem dX5_inBrackets_37 : decode cX5_inBrackets 37 = .ok (.astore 4, 2) := by decide +kernel
theorem dX5_inBrackets_39 : decode cX5_inBrackets 39 = .ok (.aload 4, 2) := by decide +kernel
theorem dX5_inBrackets_41 : decode cX5_inBrackets 41 = .ok (.ifnonnull 5, 3) := by decide +kernel
theorem dX5_inBrackets_44 : decode cX5_inBrackets 44 = .ok (.aconst_null, 1) := by decide +kernel
theorem dX5_inBrackets_45 : decode cX5_inBrackets 45 = .ok (.areturn, 1) := by decide +kernel
theorem dX5_inBrackets_46 : decode cX5_inBrackets 46 = .ok (.aconst_null, 1) := by decide +kernel
theorem dX5_inBrackets_47 : decode cX5_inBrackets 47 = .ok (.astore 5, 2) := by decide +kernel
theorem dX5_inBrackets_49 : decode cX5_inBrackets 49 = .ok (.iload_n 3, 1) := by decide +kernel
theorem dX5_inBrackets_50 : decode cX5_inBrackets 50 = .ok (.bipush 63, 2) := by decide +kernel
theorem dX5_inBrackets_52 : decode cX5_inBrackets 52 = .ok (.if_icmp .ne 30, 3) := by decide +kernel
theorem dX5_inBrackets_55 : decode cX5_inBrackets 55 = .ok (.aload_n 0, 1) := by decide +kernel
theorem dX5_inBrackets_56 : decode cX5_inBrackets 56 = .ok (.bipush 58, 2) := by decide +kernel
theorem dX5_inBrackets_58 : decode cX5_inBrackets 58 = .ok (.invokevirtual 38, 3) := by decide +kernel
theorem dX5_inBrackets_61 : decode cX5_inBrackets 61 = .ok (.ifCond .eq 11, 3) := by decide +kernel
theorem dX5_inBrackets_64 : decode cX5_inBrackets 64 = .ok (.aload_n 0, 1) := by decide +kernel
theorem dX5_inBrackets_65 : decode cX5_inBrackets 65 = .ok (.iload_n 1, 1) := by decide +kernel
theorem dX5_inBrackets_66 : decode cX5_inBrackets 66 = .ok (.invokevirtual 58, 3) := by decide +kernel
theorem dX5_inBrackets_69 : decode cX5_inBrackets 69 = .ok (.goto 4, 3) := by decide +kernel
theorem dX5_inBrackets_72 : decode cX5_inBrackets 72 = .ok (.aconst_null, 1) := by decide +kernel
theorem dX5_inBrackets_73 : decode cX5_inBrackets 73 = .ok (.astore 5, 2) := by decide +kernel
theorem dX5_inBrackets_75 : decode cX5_inBrackets 75 = .ok (.aload 5, 2) := by decide +kernel
theorem dX5_inBrackets_77 : decode cX5_inBrackets 77 = .ok (.ifnonnull 5, 3) := by decide +kernel
theorem dX5_inBrackets_80 : decode cX5_inBrackets 80 = .ok (.aconst_null, 1) := by decide +kernel
theorem dX5_inBrackets_81 : decode cX5_inBrackets 81 = .ok (.areturn, 1) := by decide +kernel
theorem dX5_inBrackets_82 : decode cX5_inBrackets 82 = .ok (.aload_n 0, 1) := by decide +kernel
theorem dX5_inBrackets_83 : decode cX5_inBrackets 83 = .ok (.bipush 41, 2) := by decide +kernel
theorem dX5_inBrackets_85 : decode cX5_inBrackets 85 = .ok (.invokevirtual 38, 3) := by decide +kernel
theorem dX5_inBrackets_88 : decode cX5_inBrackets 88 = .ok (.ifCond .eq 19, 3) := by decide +kernel
theorem dX5_inBrackets_91 : decode cX5_inBrackets 91 = .ok (.new 75, 3) := by decide +kernel
theorem dX5_inBrackets_94 : decode cX5_inBrackets 94 = .ok (.dup, 1) := by decide +kernel
theorem dX5_inBrackets_95 : decode cX5_inBrackets 95 = .ok (.iload_n 3, 1) := by decide +kernel
theorem dX5_inBrackets_96 : decode cX5_inBrackets 96 = .ok (.aload_n 2, 1) := by decide +kernel
theorem dX5_inBrackets_97 : decode cX5_inBrackets 97 = .ok (.aload 4, 2) := by decide +kernel
theorem dX5_inBrackets_99 : decode cX5_inBrackets 99 = .ok (.aload 5, 2) := by decide +kernel
theorem dX5_inBrackets_101 : decode cX5_inBrackets 101 = .ok (.invokespecial 86, 3) := by decide +kernel
theorem dX5_inBrackets_104 : decode cX5_inBrackets 104 = .ok (.goto 4, 3) := by decide +kernel
theorem dX5_inBrackets_107 : decode cX5_inBrackets 107 = .ok (.aconst_null, 1) := by decide +kernel
theorem dX5_inBrackets_108 : decode cX5_inBrackets 108 = .ok (.areturn, 1) := by decide +kernel
theorem dX5_number_0 : decode cX5_number 0 = .ok (.ldc2_w 89, 3) := by decide +kernel
theorem dX5_number_3 : decode cX5_number 3 = .ok (.aload_n 0, 1) := by decide +kernel
theorem dX5_number_4 : decode cX5_number 4 = .ok (.bipush 6, 2) := by decide +kernel
theorem dX5_number_6 : decode cX5_number 6 = .ok (.invokevirtual 91, 3) := by decide +kernel
theorem dX5_number_9 : decode cX5_number 9 = .ok (.lmul, 1) := by decide +kernel
theorem dX5_number_10 : decode cX5_number 10 = .ok (.lstore_n 1, 1) := by decide +kernel
theorem dX5_number_11 : decode cX5_number 11 = .ok (.aload_n 0, 1) := by decide +kernel
theorem dX5_number_12 : decode cX5_number 12 = .ok (.bipush 46, 2) := by decide +kernel
theorem dX5_number_14 : decode cX5_number 14 = .ok (.invokevirtual 38, 3) := by decide +kernel
theorem dX5_number_17 : decode cX5_number 17 = .ok (.ifCond .eq 51, 3) := by decide +kernel
theorem dX5_number_20 : decode cX5_number 20 = .ok (.aload_n 0, 1) := by decide +kernel
theorem dX5_number_21 : decode cX5_number 21 = .ok (.invokevirtual 26, 3) := by decide +kernel
theorem dX5_number_24 : decode cX5_number 24 = .ok (.invokestatic 68, 3) := by decide +kernel
theorem dX5_number_27 : decode cX5_number 27 = .ok (.ifCond .ne 5, 3) := by decide +kernel
theorem dX5_number_30 : decode cX5_number 30 = .ok (.aconst_null, 1) := by decide +kernel
theorem dX5_number_31 : decode cX5_number 31 = .ok (.areturn, 1) := by decide +kernel
theorem dX5_number_32 : decode cX5_number 32 = .ok (.aload_n 0, 1) := by decide +kernel
theorem dX5_number_33 : decode cX5_number 33 = .ok (.getfield 19, 3) := by decide +kernel
theorem dX5_number_36 : decode cX5_number 36 = .ok (.istore_n 3, 1) := by decide +kernel
theorem dX5_number_37 : decode cX5_number 37 = .ok (.aload_n 0, 1) := by decide +kernel
theorem dX5_number_38 : decode cX5_number 38 = .ok (.iconst 2, 1) := by decide +kernel
theorem dX5_number_39 : decode cX5_number 39 = .ok (.invokevirtual 91, 3) := by decide +kernel
theorem dX5_number_42 : decode cX5_number 42 = .ok (.lstore 4, 2) := by decide +kernel
theorem dX5_number_44 : decode cX5_number 44 = .ok (.lload_n 1, 1) := by decide +kernel
theorem dX5_number_45 : decode cX5_number 45 = .ok (.aload_n 0, 1) := by decide +kernel
theorem dX5_number_46 : decode cX5_number 46 = .ok (.getfield 19, 3) := by decide +kernel
theorem dX5_number_49 : decode cX5_number 49 = .ok (.iload_n 3, 1) := by decide +kernel
theorem dX5_number_50 : decode cX5_number 50 = .ok (.isub, 1) := by decide +kernel
theorem dX5_number_51 : decode cX5_number 51 = .ok (.iconst 1, 1) := by decide +kernel
theorem dX5_number_52 : decode cX5_number 52 = .ok (.if_icmp .ne 12, 3) := by decide +kernel
theorem dX5_number_55 : decode cX5_number 55 = .ok (.ldc2_w 95, 3) := by decide +kernel
theorem dX5_number_58 : decode cX5_number 58 = .ok (.lload 4, 2) := by decide +kernel
theorem dX5_number_60 : decode cX5_number 60 = .ok (.lmul, 1) := by decide +kernel
theorem dX5_number_61 : decode cX5_number 61 = .ok (.goto 5, 3) := by decide +kernel
theorem dX5_number_64 : decode cX5_number 64 = .ok (.lload 4, 2) := by decide +kernel
theorem dX5_number_66 : decode cX5_number 66 = .ok (.ladd, 1) := by decide +kernel
theorem dX5_number_67 : decode cX5_number 67 = .ok (.lstore_n 1, 1) := by decide +kernel
theorem dX5_number_68 : decode cX5_number 68 = .ok (.new 75, 3) := by decide +kernel
theorem dX5_number_71 : decode cX5_number 71 = .ok (.dup, 1) := by decide +kernel
theorem dX5_number_72 : decode cX5_number 72 = .ok (.bipush 48, 2) := by decide +kernel
theorem dX5_number_74 : decode cX5_number 74 = .ok (.lload_n 1, 1) := by decide +kernel
theorem dX5_number_75 : decode cX5_number 75 = .ok (.iconst 0, 1) := by decide +kernel
theorem dX5_number_76 : decode cX5_number 76 = .ok (.invokespecial 77, 3) := by decide +kernel
theorem dX5_number_79 : decode cX5_number 79 = .ok (.areturn, 1) := by decide +kernel
theorem dX5_digits_0 : decode cX5_digits 0 = .ok (.lconst 0, 1) := by decide +kernel
theorem dX5_digits_1 : decode cX5_digits 1 = .ok (.lstore_n 2, 1) := by decide +kernel
theorem dX5_digits_2 : decode cX5_digits 2 = .ok (.iconst 0, 1) := by decide +kernel
theorem dX5_digits_3 : decode cX5_digits 3 = .ok (.istore 4, 2) := by decide +kernel
theorem dX5_digits_5 : decode cX5_digits 5 = .ok (.iload 4, 2) := by decide +kernel
theorem dX5_digits_7 : decode cX5_digits 7 = .ok (.iload_n 1, 1) := by decide +kernel
theorem dX5_digits_8 : decode cX5_digits 8 = .ok (.if_icmp .ge 44, 3) := by decide +kernel
theorem dX5_digits_11 : decode cX5_digits 11 = .ok (.aload_n 0, 1) := by decide +kernel
theorem dX5_digits_12 : decode cX5_digits 12 = .ok (.invokevirtual 26, 3) := by decide +kernel
theorem dX5_digits_15 : decode cX5_digits 15 = .ok (.invokestatic 68, 3) := by decide +kernel
theorem dX5_digits_18 : decode cX5_digits 18 = .ok (.ifCond .eq 34, 3) := by decide +kernel
theorem dX5_digits_21 : decode cX5_digits 21 = .ok (.ldc2_w 95, 3) := by decide +kernel
theorem dX5_digits_24 : decode cX5_digits 24 = .ok (.lload_n 2, 1) := by decide +kernel
theorem dX5_digits_25 : decode cX5_digits 25 = .ok (.lmul, 1) := by decide +kernel
theorem dX5_digits_26 : decode cX5_digits 26 = .ok (.aload_n 0, 1) := by decide +kernel
theorem dX5_digits_27 : decode cX5_digits 27 = .ok (.invokevirtual 26, 3) := by decide +kernel
theorem dX5_digits_30 : decode cX5_digits 30 = .ok (.bipush 48, 2) := by decide +kernel
theorem dX5_digits_32 : decode cX5_digits 32 = .ok (.isub, 1) := by decide +kernel
theorem dX5_digits_33 : decode cX5_digits 33 = .ok (.i2l, 1) := by decide +kernel
theorem dX5_digits_34 : decode cX5_digits 34 = .ok (.ladd, 1) := by decide +kernel
theorem dX5_digits_35 : decode cX5_digits 35 = .ok (.lstore_n 2, 1) := by decide +kernel
theorem dX5_digits_36 : decode cX5_digits 36 = .ok (.aload_n 0, 1) := by decide +kernel
theorem dX5_digits_37 : decode cX5_digits 37 = .ok (.dup, 1) := by decide +kernel
theorem dX5_digits_38 : decode cX5_digits 38 = .ok (.getfield 19, 3) := by decide +kernel
theorem dX5_digits_41 : decode cX5_digits 41 = .ok (.iconst 1, 1) := by decide +kernel
theorem dX5_digits_42 : decode cX5_digits 42 = .ok (.iadd, 1) := by decide +kernel
theorem dX5_digits_43 : decode cX5_digits 43 = .ok (.putfield 19, 3) := by decide +kernel
theorem dX5_digits_46 : decode cX5_digits 46 = .ok (.iinc 4 1, 3) := by decide +kernel
theorem dX5_digits_49 : decode cX5_digits 49 = .ok (.goto (-44), 3) := by decide +kernel
theorem dX5_digits_52 : decode cX5_digits 52 = .ok (.lload_n 2, 1) := by decide +kernel
theorem dX5_digits_53 : decode cX5_digits 53 = .ok (.lreturn, 1) := by decide +kernel
theorem dX5_nameCode_0 : decode cX5_nameCode 0 = .ok (.iconst 0, 1) := by decide +kernel
theorem dX5_nameCode_1 : decode cX5_nameCode 1 = .ok (.istore_n 1, 1) := by decide +kernel
theorem dX5_nameCode_2 : decode cX5_nameCode 2 = .ok (.iconst 0, 1) := by decide +kernel
theorem dX5_nameCode_3 : decode cX5_nameCode 3 = .ok (.istore_n 2, 1) := by decide +kernel
theorem dX5_nameCode_4 : decode cX5_nameCode 4 = .ok (.iload_n 2, 1) := by decide +kernel
theorem dX5_nameCode_5 : decode cX5_nameCode 5 = .ok (.iconst 2, 1) := by decide +kernel
theorem dX5_nameCode_6 : decode cX5_nameCode 6 = .ok (.if_icmp .ge 40, 3) := by decide +kernel
theorem dX5_nameCode_9 : decode cX5_nameCode 9 = .ok (.aload_n 0, 1) := by decide +kernel
theorem dX5_nameCode_10 : decode cX5_nameCode 10 = .ok (.invokevirtual 26, 3) := by decide +kernel
theorem dX5_nameCode_13 : decode cX5_nameCode 13 = .ok (.invokestatic 30, 3) := by decide +kernel
theorem dX5_nameCode_16 : decode cX5_nameCode 16 = .ok (.ifCond .eq 30, 3) := by decide +kernel
theorem dX5_nameCode_19 : decode cX5_nameCode 19 = .ok (.sipush 128, 3) := by decide +kernel
theorem dX5_nameCode_22 : decode cX5_nameCode 22 = .ok (.iload_n 1, 1) := by decide +kernel
theorem dX5_nameCode_23 : decode cX5_nameCode 23 = .ok (.imul, 1) := by decide +kernel
theorem dX5_nameCode_24 : decode cX5_nameCode 24 = .ok (.aload_n 0, 1) := by decide +kernel
theorem dX5_nameCode_25 : decode cX5_nameCode 25 = .ok (.invokevirtual 26, 3) := by decide +kernel
theorem dX5_nameCode_28 : decode cX5_nameCode 28 = .ok (.iadd, 1) := by decide +kernel
theorem dX5_nameCode_29 : decode cX5_nameCode 29 = .ok (.istore_n 1, 1) := by decide +kernel
theorem dX5_nameCode_30 : decode cX5_nameCode 30 = .ok (.aload_n 0, 1) := by decide +kernel
theorem dX5_nameCode_31 : decode cX5_nameCode 31 = .ok (.dup, 1) := by decide +kernel
theorem dX5_nameCode_32 : decode cX5_nameCode 32 = .ok (.getfield 19, 3) := by decide +kernel
theorem dX5_nameCode_35 : decode cX5_nameCode 35 = .ok (.iconst 1, 1) := by decide +kernel
theorem dX5_nameCode_36 : decode cX5_nameCode 36 = .ok (.iadd, 1) := by decide +kernel
theorem dX5_nameCode_37 : decode cX5_nameCode 37 = .ok (.putfield 19, 3) := by decide +kernel
theorem dX5_nameCode_40 : decode cX5_nameCode 40 = .ok (.iinc 2 1, 3) := by decide +kernel
theorem dX5_nameCode_43 : decode cX5_nameCode 43 = .ok (.goto (-39), 3) := by decide +kernel
theorem dX5_nameCode_46 : decode cX5_nameCode 46 = .ok (.iload_n 1, 1) := by decide +kernel
theorem dX5_nameCode_47 : decode cX5_nameCode 47 = .ok (.ireturn, 1) := by decide +kernel
theorem dX5_next_0 : decode cX5_next 0 = .ok (.aload_n 0, 1) := by decide +kernel
theorem dX5_next_1 : decode cX5_next 1 = .ok (.getfield 19, 3) := by decide +kernel
theorem dX5_next_4 : decode cX5_next 4 = .ok (.aload_n 0, 1) := by decide +kernel
theorem dX5_next_5 : decode cX5_next 5 = .ok (.getfield 15, 3) := by decide +kernel
theorem dX5_next_8 : decode cX5_next 8 = .ok (.if_icmp .ge 15, 3) := by decide +kernel
theorem dX5_next_11 : decode cX5_next 11 = .ok (.aload_n 0, 1) := by decide +kernel
theorem dX5_next_12 : decode cX5_next 12 = .ok (.getfield 9, 3) := by decide +kernel
theorem dX5_next_15 : decode cX5_next 15 = .ok (.aload_n 0, 1) := by decide +kernel
theorem dX5_next_16 : decode cX5_next 16 = .ok (.getfield 19, 3) := by decide +kernel
theorem dX5_next_19 : decode cX5_next 19 = .ok (.caload, 1) := by decide +kernel
theorem dX5_next_20 : decode cX5_next 20 = .ok (.goto 4, 3) := by decide +kernel
theorem dX5_next_23 : decode cX5_next 23 = .ok (.iconst 0, 1) := by decide +kernel
theorem dX5_next_24 : decode cX5_next 24 = .ok (.ireturn, 1) := by decide +kernel
theorem dX5_skip_0 : decode cX5_skip 0 = .ok (.aload_n 0, 1) := by decide +kernel
theorem dX5_skip_1 : decode cX5_skip 1 = .ok (.invokevirtual 26, 3) := by decide +kernel
theorem dX5_skip_4 : decode cX5_skip 4 = .ok (.iload_n 1, 1) := by decide +kernel
theorem dX5_skip_5 : decode cX5_skip 5 = .ok (.if_icmp .eq 5, 3) := by decide +kernel
theorem dX5_skip_8 : decode cX5_skip 8 = .ok (.iconst 0, 1) := by decide +kernel
theorem dX5_skip_9 : decode cX5_skip 9 = .ok (.ireturn, 1) := by decide +kernel
theorem dX5_skip_10 : decode cX5_skip 10 = .ok (.aload_n 0, 1) := by decide +kernel
theorem dX5_skip_11 : decode cX5_skip 11 = .ok (.dup, 1) := by decide +kernel
theorem dX5_skip_12 : decode cX5_skip 12 = .ok (.getfield 19, 3) := by decide +kernel
theorem dX5_skip_15 : decode cX5_skip 15 = .ok (.iconst 1, 1) := by decide +kernel
theorem dX5_skip_16 : decode cX5_skip 16 = .ok (.iadd, 1) := by decide +kernel
theorem dX5_skip_17 : decode cX5_skip 17 = .ok (.putfield 19, 3) := by decide +kernel
theorem dX5_skip_20 : decode cX5_skip 20 = .ok (.iconst 1, 1) := by decide +kernel
theorem dX5_skip_21 : decode cX5_skip 21 = .ok (.ireturn, 1) := by decide +kernel
theorem dX5_isSign_0 : decode cX5_isSign 0 = .ok (.iload_n 0, 1) := by decide +kernel
theorem dX5_isSign_1 : decode cX5_isSign 1 = .ok (.bipush 43, 2) := by decide +kernel
theorem dX5_isSign_3 : decode cX5_isSign 3 = .ok (.if_icmp .eq 39, 3) := by decide +kernel
theorem dX5_isSign_6 : decode cX5_isSign 6 = .ok (.iload_n 0, 1) := by decide +kernel
theorem dX5_isSign_7 : decode cX5_isSign 7 = .ok (.bipush 45, 2) := by decide +kernel
theorem dX5_isSign_9 : decode cX5_isSign 9 = .ok (.if_icmp .eq 33, 3) := by decide +kernel
theorem dX5_isSign_12 : decode cX5_isSign 12 = .ok (.iload_n 0, 1) := by decide +kernel
theorem dX5_isSign_13 : decode cX5_isSign 13 = .ok (.bipush 42, 2) := by decide +kernel
theorem dX5_isSign_15 : decode cX5_isSign 15 = .ok (.if_icmp .eq 27, 3) := by decide +kernel
theorem dX5_isSign_18 : decode cX5_isSign 18 = .ok (.iload_n 0, 1) := by decide +kernel
theorem dX5_isSign_19 : decode cX5_isSign 19 = .ok (.bipush 47, 2) := by decide +kernel
theorem dX5_isSign_21 : decode cX5_isSign 21 = .ok (.if_icmp .eq 21, 3) := by decide +kernel
theorem dX5_isSign_24 : decode cX5_isSign 24 = .ok (.iload_n 0, 1) := by decide +kernel
theorem dX5_isSign_25 : decode cX5_isSign 25 = .ok (.bipush 60, 2) := by decide +kernel
theorem dX5_isSign_27 : decode cX5_isSign 27 = .ok (.if_icmp .eq 15, 3) := by decide +kernel
theorem dX5_isSign_30 : decode cX5_isSign 30 = .ok (.iload_n 0, 1) := by decide +kernel
theorem dX5_isSign_31 : decode cX5_isSign 31 = .ok (.bipush 61, 2) := by decide +kernel
theorem dX5_isSign_33 : decode cX5_isSign 33 = .ok (.if_icmp .eq 9, 3) := by decide +kernel
theorem dX5_isSign_36 : decode cX5_isSign 36 = .ok (.iload_n 0, 1) := by decide +kernel
theorem dX5_isSign_37 : decode cX5_isSign 37 = .ok (.bipush 63, 2) := by decide +kernel
theorem dX5_isSign_39 : decode cX5_isSign 39 = .ok (.if_icmp .ne 7, 3) := by decide +kernel
theorem dX5_isSign_42 : decode cX5_isSign 42 = .ok (.iconst 1, 1) := by decide +kernel
theorem dX5_isSign_43 : decode cX5_isSign 43 = .ok (.goto 4, 3) := by decide +kernel
theorem dX5_isSign_46 : decode cX5_isSign 46 = .ok (.iconst 0, 1) := by decide +kernel
theorem dX5_isSign_47 : decode cX5_isSign 47 = .ok (.ireturn, 1) := by decide +kernel
theorem dX6_init_0 : decode cX6_init 0 = .ok (.aload_n 0, 1) := by decide +kernel
theorem dX6_init_1 : decode cX6_init 1 = .ok (.invokespecial 3, 3) := by decide +kernel
theorem dX6_init_4 : decode cX6_init 4 = .ok (.aload_n 0, 1) := by decide +kernel
theorem dX6_init_5 : decode cX6_init 5 = .ok (.bipush 64, 2) := by decide +kernel
theorem dX6_init_7 : decode cX6_init 7 = .ok (.newarray .long, 2) := by decide +kernel
theorem dX6_init_9 : decode cX6_init 9 = .ok (.putfield 9, 3) := by decide +kernel
theorem dX6_init_12 : decode cX6_init 12 = .ok (.aload_n 0, 1) := by decide +kernel
theorem dX6_init_13 : decode cX6_init 13 = .ok (.bipush 64, 2) := by decide +kernel
theorem dX6_init_15 : decode cX6_init 15 = .ok (.newarray .long, 2) := by decide +kernel
theorem dX6_init_17 : decode cX6_init 17 = .ok (.putfield 15, 3) := by decide +kernel
theorem dX6_init_20 : decode cX6_init 20 = .ok (.aload_n 0, 1) := by decide +kernel
theorem dX6_init_21 : decode cX6_init 21 = .ok (.bipush 64, 2) := by decide +kernel
theorem dX6_init_23 : decode cX6_init 23 = .ok (.newarray .int, 2) := by decide +kernel
theorem dX6_init_25 : decode cX6_init 25 = .ok (.putfield 18, 3) := by decide +kernel
theorem dX6_init_28 : decode cX6_init 28 = .ok (.aload_n 0, 1) := by decide +kernel
theorem dX6_init_29 : decode cX6_init 29 = .ok (.iconst 0, 1) := by decide +kernel
theorem dX6_init_30 : decode cX6_init 30 = .ok (.putfield 22, 3) := by decide +kernel
theorem dX6_init_33 : decode cX6_init 33 = .ok (.aload_n 0, 1) := by decide +kernel
theorem dX6_init_34 : decode cX6_init 34 = .ok (.aload_n 1, 1) := by decide +kernel
theorem dX6_init_35 : decode cX6_init 35 = .ok (.putfield 26, 3) := by decide +kernel
theorem dX6_init_38 : decode cX6_init 38 = .ok (.return_, 1) := by decide +kernel
theorem dX6_forgetAll_0 : decode cX6_forgetAll 0 = .ok (.aload_n 0, 1) := by decide +kernel
theorem dX6_forgetAll_1 : decode cX6_forgetAll 1 = .ok (.getfield 9, 3) := by decide +kernel
theorem dX6_forgetAll_4 : decode cX6_forgetAll 4 = .ok (.lconst 0, 1) := by decide +kernel
theorem dX6_forgetAll_5 : decode cX6_forgetAll 5 = .ok (.invokestatic 30, 3) := by decide +kernel
theorem dX6_forgetAll_8 : decode cX6_forgetAll 8 = .ok (.return_, 1) := by decide +kernel
theorem dX6_forgetRowsFrom_0 : decode cX6_forgetRowsFrom 0 = .ok (.iconst 0, 1) := by decide +kernel
theorem dX6_forgetRowsFrom_1 : decode cX6_forgetRowsFrom 1 = .ok (.istore_n 2, 1) := by decide +kernel
theorem dX6_forgetRowsFrom_2 : decode cX6_forgetRowsFrom 2 = .ok (.iload_n 2, 1) := by decide +kernel
theorem dX6_forgetRowsFrom_3 : decode cX6_forgetRowsFrom 3 = .ok (.aload_n 0, 1) := by decide +kernel
theorem dX6_forgetRowsFrom_4 : decode cX6_forgetRowsFrom 4 = .ok (.getfield 26, 3) := by decide +kernel
theorem dX6_forgetRowsFrom_7 : decode cX6_forgetRowsFrom 7 = .ok (.getfield 36, 3) := by decide +kernel
theorem dX6_forgetRowsFrom_10 : decode cX6_forgetRowsFrom 10 = .ok (.if_icmp .ge 48, 3) := by decide +kernel
theorem dX6_forgetRowsFrom_13 : decode cX6_forgetRowsFrom 13 = .ok (.iload_n 1, 1) := by decide +kernel
theorem dX6_forgetRowsFrom_14 : decode cX6_forgetRowsFrom 14 = .ok (.iconst 0, 1) := by decide +kernel
theorem dX6_forgetRowsFrom_15 : decode cX6_forgetRowsFrom 15 = .ok (.invokestatic 41, 3) := by decide +kernel
theorem dX6_forgetRowsFrom_18 : decode cX6_forgetRowsFrom 18 = .ok (.istore_n 3, 1) := by decide +kernel
theorem dX6_forgetRowsFrom_19 : decode cX6_forgetRowsFrom 19 = .ok (.iload_n 3, 1) := by decide +kernel
theorem dX6_forgetRowsFrom_20 : decode cX6_forgetRowsFrom 20 = .ok (.iconst 4, 1) := by decide +kernel
theorem dX6_forgetRowsFrom_21 : decode cX6_forgetRowsFrom 21 = .ok (.if_icmp .ge 31, 3) := by decide +kernel
theorem dX6_forgetRowsFrom_24 : decode cX6_forgetRowsFrom 24 = .ok (.aload_n 0, 1) := by decide +kernel
theorem dX6_forgetRowsFrom_25 : decode cX6_forgetRowsFrom 25 = .ok (.getfield 26, 3) := by decide +kernel
theorem dX6_forgetRowsFrom_28 : decode cX6_forgetRowsFrom 28 = .ok (.iload_n 2, 1) := by decide +kernel
theorem dX6_forgetRowsFrom_29 : decode cX6_forgetRowsFrom 29 = .ok (.invokevirtual 47, 3) := by decide +kernel
theorem dX6_forgetRowsFrom_32 : decode cX6_forgetRowsFrom 32 = .ok (.ifCond .eq 20, 3) := by decide +kernel
theorem dX6_forgetRowsFrom_35 : decode cX6_forgetRowsFrom 35 = .ok (.aload_n 0, 1) := by decide +kernel
theorem dX6_forgetRowsFrom_36 : decode cX6_forgetRowsFrom 36 = .ok (.getfield 9, 3) := by decide +kernel
theorem dX6_forgetRowsFrom_39 : decode cX6_forgetRowsFrom 39 = .ok (.iload_n 2, 1) := by decide +kernel
theorem dX6_forgetRowsFrom_40 : decode cX6_forgetRowsFrom 40 = .ok (.iload_n 3, 1) := by decide +kernel
theorem dX6_forgetRowsFrom_41 : decode cX6_forgetRowsFrom 41 = .ok (.invokestatic 51, 3) := by decide +kernel
theorem dX6_forgetRowsFrom_44 : decode cX6_forgetRowsFrom 44 = .ok (.lconst 0, 1) := by decide +kernel
theorem dX6_forgetRowsFrom_45 : decode cX6_forgetRowsFrom 45 = .ok (.lastore, 1) := by decide +kernel
theorem dX6_forgetRowsFrom_46 : decode cX6_forgetRowsFrom 46 = .ok (.iinc 3 1, 3) := by decide +kernel
theorem dX6_forgetRowsFrom_49 : decode cX6_forgetRowsFrom 49 = .ok (.goto (-30), 3) := by decide +kernel
theorem dX6_forgetRowsFrom_52 : decode cX6_forgetRowsFrom 52 = .ok (.iinc 2 1, 3) := by decide +kernel
theorem dX6_forgetRowsFrom_55 : decode cX6_forgetRowsFrom 55 = .ok (.goto (-53), 3) := by decide +kernel
theorem dX6_forgetRowsFrom_58 : decode cX6_forgetRowsFrom 58 = .ok (.return_, 1) := by decide +kernel
theorem dX6_outcomeOf_0 : decode cX6_outcomeOf 0 = .ok (.aload_n 0, 1) := by decide +kernel
theorem dX6_outcomeOf_1 : decode cX6_outcomeOf 1 = .ok (.getfield 26, 3) := by decide +kernel
theorem dX6_outcomeOf_4 : decode cX6_outcomeOf 4 = .ok (.iload_n 1, 1) := by decide +kernel
theorem dX6_outcomeOf_5 : decode cX6_outcomeOf 5 = .ok (.iload_n 2, 1) := by decide +kernel
theorem dX6_outcomeOf_6 : decode cX6_outcomeOf 6 = .ok (.invokevirtual 54, 3) := by decide +kernel
theorem dX6_outcomeOf_9 : decode cX6_outcomeOf 9 = .ok (.ifCond .eq 16, 3) := by decide +kernel
theorem dX6_outcomeOf_12 : decode cX6_outcomeOf 12 = .ok (.aload_n 0, 1) := by decide +kernel
theorem dX6_outcomeOf_13 : decode cX6_outcomeOf 13 = .ok (.getfield 9, 3) := by decide +kernel
theorem dX6_outcomeOf_16 : decode cX6_outcomeOf 16 = .ok (.iload_n 1, 1) := by decide +kernel
theorem dX6_outcomeOf_17 : decode cX6_outcomeOf 17 = .ok (.iload_n 2, 1) := by decide +kernel
theorem dX6_outcomeOf_18 : decode cX6_outcomeOf 18 = .ok (.invokestatic 51, 3) := by decide +kernel
theorem dX6_outcomeOf_21 : decode cX6_outcomeOf 21 = .ok (.laload, 1) := by decide +kernel
theorem dX6_outcomeOf_22 : decode cX6_outcomeOf 22 = .ok (.goto 4, 3) := by decide +kernel
theorem dX6_outcomeOf_25 : decode cX6_outcomeOf 25 = .ok (.lconst 0, 1) := by decide +kernel
theorem dX6_outcomeOf_26 : decode cX6_outcomeOf 26 = .ok (.lreturn, 1) := by decide +kernel
theorem dX6_fails_0 : decode cX6_fails 0 = .ok (.aload_n 0, 1) := by decide +kernel
theorem dX6_fails_1 : decode cX6_fails 1 = .ok (.getfield 26, 3) := by decide +kernel
theorem dX6_fails_4 : decode cX6_fails 4 = .ok (.iload_n 1, 1) := by decide +kernel
theorem dX6_fails_5 : decode cX6_fails 5 = .ok (.invokevirtual 58, 3) := by decide +kernel
theorem dX6_fails_8 : decode cX6_fails 8 = .ok (.ifCond .ne 5, 3) := by decide +kernel
theorem dX6_fails_11 : decode cX6_fails 11 = .ok (.iconst 0, 1) := by decide +kernel
theorem dX6_fails_12 : decode cX6_fails 12 = .ok (.ireturn, 1) := by decide +kernel
theorem dX6_fails_13 : decode cX6_fails 13 = .ok (.aload_n 0, 1) := by decide +kernel
theorem dX6_fails_14 : decode cX6_fails 14 = .ok (.iload_n 1, 1) := by decide +kernel
theorem dX6_fails_15 : decode cX6_fails 15 = .ok (.iload_n 2, 1) := by decide +kernel
theorem dX6_fails_16 : decode cX6_fails 16 = .ok (.invokevirtual 61, 3) := by decide +kernel
theorem dX6_fails_19 : decode cX6_fails 19 = .ok (.lstore_n 3, 1) := by decide +kernel
theorem dX6_fails_20 : decode cX6_fails 20 = .ok (.lload_n 3, 1) := by decide +kernel
theorem dX6_fails_21 : decode cX6_fails 21 = .ok (.lconst 0, 1) := by decide +kernel
theorem dX6_fails_22 : decode cX6_fails 22 = .ok (.lcmp, 1) := by decide +kernel
theorem dX6_fails_23 : decode cX6_fails 23 = .ok (.ifCond .eq 10, 3) := by decide +kernel
theorem dX6_fails_26 : decode cX6_fails 26 = .ok (.lload_n 3, 1) := by decide +kernel
theorem dX6_fails_27 : decode cX6_fails 27 = .ok (.invokestatic 65, 3) := by decide +kernel
theorem dX6_fails_30 : decode cX6_fails 30 = .ok (.ifCond .eq 7, 3) := by decide +kernel
theorem dX6_fails_33 : decode cX6_fails 33 = .ok (.iconst 1, 1) := by decide +kernel
theorem dX6_fails_34 : decode cX6_fails 34 = .ok (.goto 4, 3) := by decide +kernel
theorem dX6_fails_37 : decode cX6_fails 37 = .ok (.iconst 0, 1) := by decide +kernel
theorem dX6_fails_38 : decode cX6_fails 38 = .ok (.ireturn, 1) := by decide +kernel
theorem dX6_faultCount_0 : decode cX6_faultCount 0 = .ok (.iconst 0, 1) := by decide +kernel
theorem dX6_faultCount_1 : decode cX6_faultCount 1 = .ok (.istore_n 1, 1) := by decide +kernel
theorem dX6_faultCount_2 : decode cX6_faultCount 2 = .ok (.iconst 0, 1) := by decide +kernel
theorem dX6_faultCount_3 : decode cX6_faultCount 3 = .ok (.istore_n 2, 1) := by decide +kernel
theorem dX6_faultCount_4 : decode cX6_faultCount 4 = .ok (.iload_n 2, 1) := by decide +kernel
theorem dX6_faultCount_5 : decode cX6_faultCount 5 = .ok (.aload_n 0, 1) := by decide +kernel
theorem dX6_faultCount_6 : decode cX6_faultCount 6 = .ok (.getfield 26, 3) := by decide +kernel
theorem dX6_faultCount_9 : decode cX6_faultCount 9 = .ok (.getfield 36, 3) := by decide +kernel
theorem dX6_faultCount_12 : decode cX6_faultCount 12 = .ok (.if_icmp .ge 55, 3) := by decide +kernel
theorem dX6_faultCount_15 : decode cX6_faultCount 15 = .ok (.iconst 0, 1) := by decide +kernel
theorem dX6_faultCount_16 : decode cX6_faultCount 16 = .ok (.istore_n 3, 1) := by decide +kernel
theorem dX6_faultCount_17 : decode cX6_faultCount 17 = .ok (.iload_n 3, 1) := by decide +kernel
theorem dX6_faultCount_18 : decode cX6_faultCount 18 = .ok (.aload_n 0, 1) := by decide +kernel
theorem dX6_faultCount_19 : decode cX6_faultCount 19 = .ok (.getfield 26, 3) := by decide +kernel
theorem dX6_faultCount_22 : decode cX6_faultCount 22 = .ok (.iload_n 2, 1) := by decide +kernel
theorem dX6_faultCount_23 : decode cX6_faultCount 23 = .ok (.invokevirtual 69, 3) := by decide +kernel
theorem dX6_faultCount_26 : decode cX6_faultCount 26 = .ok (.if_icmp .ge 35, 3) := by decide +kernel
theorem dX6_faultCount_29 : decode cX6_faultCount 29 = .ok (.aload_n 0, 1) := by decide +kernel
theorem dX6_faultCount_30 : decode cX6_faultCount 30 = .ok (.getfield 26, 3) := by decide +kernel
theorem dX6_faultCount_33 : decode cX6_faultCount 33 = .ok (.iload_n 2, 1) := by decide +kernel
theorem dX6_faultCount_34 : decode cX6_faultCount 34 = .ok (.invokevirtual 73, 3) := by decide +kernel
theorem dX6_faultCount_37 : decode cX6_faultCount 37 = .ok (.ifCond .eq 24, 3) := by decide +kernel
theorem dX6_faultCount_40 : decode cX6_faultCount 40 = .ok (.aload_n 0, 1) := by decide +kernel
theorem dX6_faultCount_41 : decode cX6_faultCount 41 = .ok (.iload_n 2, 1) := by decide +kernel
theorem dX6_faultCount_42 : decode cX6_faultCount 42 = .ok (.iload_n 3, 1) := by decide +kernel
theorem dX6_faultCount_43 : decode cX6_faultCount 43 = .ok (.invokevirtual 61, 3) := by decide +kernel
theorem dX6_faultCount_46 : decode cX6_faultCount 46 = .ok (.invokestatic 65, 3) := by decide +kernel
theorem dX6_faultCount_49 : decode cX6_faultCount 49 = .ok (.ifCond .eq 6, 3) := by decide +kernel
theorem dX6_faultCount_52 : decode cX6_faultCount 52 = .ok (.iinc 1 1, 3) := by decide +kernel
theorem dX6_faultCount_55 : decode cX6_faultCount 55 = .ok (.iinc 3 1, 3) := by decide +kernel
theorem dX6_faultCount_58 : decode cX6_faultCount 58 = .ok (.goto (-41), 3) := by decide +kernel
theorem dX6_faultCount_61 : decode cX6_faultCount 61 = .ok (.iinc 2 1, 3) := by decide +kernel
theorem dX6_faultCount_64 : decode cX6_faultCount 64 = .ok (.goto (-60), 3) := by decide +kernel
theorem dX6_faultCount_67 : decode cX6_faultCount 67 = .ok (.iload_n 1, 1) := by decide +kernel
theorem dX6_faultCount_68 : decode cX6_faultCount 68 = .ok (.ireturn, 1) := by decide +kernel
theorem dX6_tell_0 : decode cX6_tell 0 = .ok (.iload_n 1, 1) := by decide +kernel
theorem dX6_tell_1 : decode cX6_tell 1 = .ok (.ifCond .lt 9, 3) := by decide +kernel
theorem dX6_tell_4 : decode cX6_tell 4 = .ok (.iload_n 1, 1) := by decide +kernel
theorem dX6_tell_5 : decode cX6_tell 5 = .ok (.bipush 64, 2) := by decide +kernel
theorem dX6_tell_7 : decode cX6_tell 7 = .ok (.if_icmp .lt 5, 3) := by decide +kernel
theorem dX6_tell_10 : decode cX6_tell 10 = .ok (.iconst 0, 1) := by decide +kernel
theorem dX6_tell_11 : decode cX6_tell 11 = .ok (.ireturn, 1) := by decide +kernel
theorem dX6_tell_12 : decode cX6_tell 12 = .ok (.aload_n 0, 1) := by decide +kernel
theorem dX6_tell_13 : decode cX6_tell 13 = .ok (.getfield 9, 3) := by decide +kernel
theorem dX6_tell_16 : decode cX6_tell 16 = .ok (.iload_n 1, 1) := by decide +kernel
theorem dX6_tell_17 : decode cX6_tell 17 = .ok (.lload_n 2, 1) := by decide +kernel
theorem dX6_tell_18 : decode cX6_tell 18 = .ok (.lastore, 1) := by decide +kernel
theorem dX6_tell_19 : decode cX6_tell 19 = .ok (.iconst 0, 1) := by decide +kernel
theorem dX6_tell_20 : decode cX6_tell 20 = .ok (.istore 4, 2) := by decide +kernel
theorem dX6_tell_22 : decode cX6_tell 22 = .ok (.iconst 0, 1) := by decide +kernel
theorem dX6_tell_23 : decode cX6_tell 23 = .ok (.istore 5, 2) := by decide +kernel
theorem dX6_tell_25 : decode cX6_tell 25 = .ok (.iload 5, 2) := by decide +kernel
theorem dX6_tell_27 : decode cX6_tell 27 = .ok (.aload_n 0, 1) := by decide +kernel
theorem dX6_tell_28 : decode cX6_tell 28 = .ok (.getfield 22, 3) := by decide +kernel
theorem dX6_tell_31 : decode cX6_tell 31 = .ok (.if_icmp .ge 64, 3) := by decide +kernel
theorem dX6_tell_34 : decode cX6_tell 34 = .ok (.aload_n 0, 1) := by decide +kernel
theorem dX6_tell_35 : decode cX6_tell 35 = .ok (.aload_n 0, 1) := by decide +kernel
theorem dX6_tell_36 : decode cX6_tell 36 = .ok (.getfield 18, 3) := by decide +kernel
theorem dX6_tell_39 : decode cX6_tell 39 = .ok (.iload 5, 2) := by decide +kernel
theorem dX6_tell_41 : decode cX6_tell 41 = .ok (.iaload, 1) := by decide +kernel
theorem dX6_tell_42 : decode cX6_tell 42 = .ok (.iload_n 1, 1) := by decide +kernel
theorem dX6_tell_43 : decode cX6_tell 43 = .ok (.invokevirtual 76, 3) := by decide +kernel
theorem dX6_tell_46 : decode cX6_tell 46 = .ok (.ifCond .eq 43, 3) := by decide +kernel
theorem dX6_tell_49 : decode cX6_tell 49 = .ok (.aload_n 0, 1) := by decide +kernel
theorem dX6_tell_50 : decode cX6_tell 50 = .ok (.aload_n 0, 1) := by decide +kernel
theorem dX6_tell_51 : decode cX6_tell 51 = .ok (.getfield 18, 3) := by decide +kernel
theorem dX6_tell_54 : decode cX6_tell 54 = .ok (.iload 5, 2) := by decide +kernel
theorem dX6_tell_56 : decode cX6_tell 56 = .ok (.iaload, 1) := by decide +kernel
theorem dX6_tell_57 : decode cX6_tell 57 = .ok (.invokevirtual 79, 3) := by decide +kernel
theorem dX6_tell_60 : decode cX6_tell 60 = .ok (.iload 4, 2) := by decide +kernel
theorem dX6_tell_62 : decode cX6_tell 62 = .ok (.aload_n 0, 1) := by decide +kernel
theorem dX6_tell_63 : decode cX6_tell 63 = .ok (.getfield 26, 3) := by decide +kernel
theorem dX6_tell_66 : decode cX6_tell 66 = .ok (.aload_n 0, 1) := by decide +kernel
theorem dX6_tell_67 : decode cX6_tell 67 = .ok (.getfield 18, 3) := by decide +kernel
theorem dX6_tell_70 : decode cX6_tell 70 = .ok (.iload 5, 2) := by decide +kernel
theorem dX6_tell_72 : decode cX6_tell 72 = .ok (.iaload, 1) := by decide +kernel
theorem dX6_tell_73 : decode cX6_tell 73 = .ok (.iconst 4, 1) := by decide +kernel
theorem dX6_tell_74 : decode cX6_tell 74 = .ok (.idiv, 1) := by decide +kernel
theorem dX6_tell_75 : decode cX6_tell 75 = .ok (.invokevirtual 73, 3) := by decide +kernel
theorem dX6_tell_78 : decode cX6_tell 78 = .ok (.ifCond .eq 7, 3) := by decide +kernel
theorem dX6_tell_81 : decode cX6_tell 81 = .ok (.iconst 1, 1) := by decide +kernel
theorem dX6_tell_82 : decode cX6_tell 82 = .ok (.goto 4, 3) := by decide +kernel
theorem dX6_tell_85 : decode cX6_tell 85 = .ok (.iconst 0, 1) := by decide +kernel
theorem dX6_tell_86 : decode cX6_tell 86 = .ok (.iadd, 1) := by decide +kernel
theorem dX6_tell_87 : decode cX6_tell 87 = .ok (.istore 4, 2) := by decide +kernel
theorem dX6_tell_89 : decode cX6_tell 89 = .ok (.iinc 5 1, 3) := by decide +kernel
theorem dX6_tell_92 : decode cX6_tell 92 = .ok (.goto (-67), 3) := by decide +kernel
theorem dX6_tell_95 : decode cX6_tell 95 = .ok (.iload 4, 2) := by decide +kernel
theorem dX6_tell_97 : decode cX6_tell 97 = .ok (.ireturn, 1) := by decide +kernel
theorem dX6_workOutAll_0 : decode cX6_workOutAll 0 = .ok (.aload_n 0, 1) := by decide +kernel
theorem dX6_workOutAll_1 : decode cX6_workOutAll 1 = .ok (.invokevirtual 83, 3) := by decide +kernel
theorem dX6_workOutAll_4 : decode cX6_workOutAll 4 = .ok (.iconst 0, 1) := by decide +kernel
theorem dX6_workOutAll_5 : decode cX6_workOutAll 5 = .ok (.istore_n 1, 1) := by decide +kernel
theorem dX6_workOutAll_6 : decode cX6_workOutAll 6 = .ok (.iload_n 1, 1) := by decide +kernel
theorem dX6_workOutAll_7 : decode cX6_workOutAll 7 = .ok (.aload_n 0, 1) := by decide +kernel
theorem dX6_workOutAll_8 : decode cX6_workOutAll 8 = .ok (.getfield 22, 3) := by decide +kernel
theorem dX6_workOutAll_11 : decode cX6_workOutAll 11 = .ok (.if_icmp .ge 19, 3) := by decide +kernel
theorem dX6_workOutAll_14 : decode cX6_workOutAll 14 = .ok (.aload_n 0, 1) := by decide +kernel
theorem dX6_workOutAll_15 : decode cX6_workOutAll 15 = .ok (.aload_n 0, 1) := by decide +kernel
theorem dX6_workOutAll_16 : decode cX6_workOutAll 16 = .ok (.getfield 18, 3) := by decide +kernel
theorem dX6_workOutAll_19 : decode cX6_workOutAll 19 = .ok (.iload_n 1, 1) := by decide +kernel
theorem dX6_workOutAll_20 : decode cX6_workOutAll 20 = .ok (.iaload, 1) := by decide +kernel
theorem dX6_workOutAll_21 : decode cX6_workOutAll 21 = .ok (.invokevirtual 79, 3) := by decide +kernel
theorem dX6_workOutAll_24 : decode cX6_workOutAll 24 = .ok (.iinc 1 1, 3) := by decide +kernel
theorem dX6_workOutAll_27 : decode cX6_workOutAll 27 = .ok (.goto (-21), 3) := by decide +kernel
theorem dX6_workOutAll_30 : decode cX6_workOutAll 30 = .ok (.return_, 1) := by decide +kernel
theorem dX6_link_0 : decode cX6_link 0 = .ok (.aload_n 0, 1) := by decide +kernel
theorem dX6_link_1 : decode cX6_link 1 = .ok (.getfield 15, 3) := by decide +kernel
theorem dX6_link_4 : decode cX6_link 4 = .ok (.lconst 0, 1) := by decide +kernel
theorem dX6_link_5 : decode cX6_link 5 = .ok (.invokestatic 30, 3) := by decide +kernel
theorem dX6_link_8 : decode cX6_link 8 = .ok (.lconst 0, 1) := by decide +kernel
theorem dX6_link_9 : decode cX6_link 9 = .ok (.lstore_n 1, 1) := by decide +kernel
theorem dX6_link_10 : decode cX6_link 10 = .ok (.iconst 0, 1) := by decide +kernel
theorem dX6_link_11 : decode cX6_link 11 = .ok (.istore_n 3, 1) := by decide +kernel
theorem dX6_link_12 : decode cX6_link 12 = .ok (.iload_n 3, 1) := by decide +kernel
theorem dX6_link_13 : decode cX6_link 13 = .ok (.aload_n 0, 1) := by decide +kernel
theorem dX6_link_14 : decode cX6_link 14 = .ok (.getfield 26, 3) := by decide +kernel
theorem dX6_link_17 : decode cX6_link 17 = .ok (.getfield 36, 3) := by decide +kernel
theorem dX6_link_20 : decode cX6_link 20 = .ok (.if_icmp .ge 81, 3) := by decide +kernel
theorem dX6_link_23 : decode cX6_link 23 = .ok (.aload_n 0, 1) := by decide +kernel
theorem dX6_link_24 : decode cX6_link 24 = .ok (.getfield 26, 3) := by decide +kernel
theorem dX6_link_27 : decode cX6_link 27 = .ok (.getfield 86, 3) := by decide +kernel
theorem dX6_link_30 : decode cX6_link 30 = .ok (.iload_n 3, 1) := by decide +kernel
theorem dX6_link_31 : decode cX6_link 31 = .ok (.aaload, 1) := by decide +kernel
theorem dX6_link_32 : decode cX6_link 32 = .ok (.getfield 90, 3) := by decide +kernel
theorem dX6_link_35 : decode cX6_link 35 = .ok (.astore 4, 2) := by decide +kernel
theorem dX6_link_37 : decode cX6_link 37 = .ok (.iconst 0, 1) := by decide +kernel
theorem dX6_link_38 : decode cX6_link 38 = .ok (.istore 5, 2) := by decide +kernel
theorem dX6_link_40 : decode cX6_link 40 = .ok (.iload 5, 2) := by decide +kernel
theorem dX6_link_42 : decode cX6_link 42 = .ok (.aload_n 0, 1) := by decide +kernel
theorem dX6_link_43 : decode cX6_link 43 = .ok (.getfield 26, 3) := by decide +kernel
theorem dX6_link_46 : decode cX6_link 46 = .ok (.iload_n 3, 1) := by decide +kernel
theorem dX6_link_47 : decode cX6_link 47 = .ok (.invokevirtual 69, 3) := by decide +kernel
theorem dX6_link_50 : decode cX6_link 50 = .ok (.if_icmp .ge 45, 3) := by decide +kernel
theorem dX6_link_53 : decode cX6_link 53 = .ok (.aload 4, 2) := by decide +kernel
theorem dX6_link_55 : decode cX6_link 55 = .ok (.ifnull 40, 3) := by decide +kernel
theorem dX6_link_58 : decode cX6_link 58 = .ok (.aload_n 0, 1) := by decide +kernel
theorem dX6_link_59 : decode cX6_link 59 = .ok (.getfield 15, 3) := by decide +kernel
theorem dX6_link_62 : decode cX6_link 62 = .ok (.iload_n 3, 1) := by decide +kernel
theorem dX6_link_63 : decode cX6_link 63 = .ok (.iload 5, 2) := by decide +kernel
theorem dX6_link_65 : decode cX6_link 65 = .ok (.invokestatic 51, 3) := by decide +kernel
theorem dX6_link_68 : decode cX6_link 68 = .ok (.aload_n 0, 1) := by decide +kernel
theorem dX6_link_69 : decode cX6_link 69 = .ok (.aload 4, 2) := by decide +kernel
theorem dX6_link_71 : decode cX6_link 71 = .ok (.iload 5, 2) := by decide +kernel
theorem dX6_link_73 : decode cX6_link 73 = .ok (.invokevirtual 96, 3) := by decide +kernel
theorem dX6_link_76 : decode cX6_link 76 = .ok (.lastore, 1) := by decide +kernel
theorem dX6_link_77 : decode cX6_link 77 = .ok (.lload_n 1, 1) := by decide +kernel
theorem dX6_link_78 : decode cX6_link 78 = .ok (.iload_n 3, 1) := by decide +kernel
theorem dX6_link_79 : decode cX6_link 79 = .ok (.iload 5, 2) := by decide +kernel
theorem dX6_link_81 : decode cX6_link 81 = .ok (.invokestatic 51, 3) := by decide +kernel
theorem dX6_link_84 : decode cX6_link 84 = .ok (.invokestatic 100, 3) := by decide +kernel
theorem dX6_link_87 : decode cX6_link 87 = .ok (.lor, 1) := by decide +kernel
theorem dX6_link_88 : decode cX6_link 88 = .ok (.lstore_n 1, 1) := by decide +kernel
theorem dX6_link_89 : decode cX6_link 89 = .ok (.iinc 5 1, 3) := by decide +kernel
theorem dX6_link_92 : decode cX6_link 92 = .ok (.goto (-52), 3) := by decide +kernel
theorem dX6_link_95 : decode cX6_link 95 = .ok (.iinc 3 1, 3) := by decide +kernel
theorem dX6_link_98 : decode cX6_link 98 = .ok (.goto (-86), 3) := by decide +kernel
theorem dX6_link_101 : decode cX6_link 101 = .ok (.aload_n 0, 1) := by decide +kernel
theorem dX6_link_102 : decode cX6_link 102 = .ok (.invokevirtual 104, 3) := by decide +kernel
theorem dX6_link_105 : decode cX6_link 105 = .ok (.aload_n 0, 1) := by decide +kernel
theorem dX6_link_106 : decode cX6_link 106 = .ok (.lload_n 1, 1) := by decide +kernel
theorem dX6_link_107 : decode cX6_link 107 = .ok (.invokevirtual 107, 3) := by decide +kernel
theorem dX6_link_110 : decode cX6_link 110 = .ok (.return_, 1) := by decide +kernel
theorem dX6_cellsNamed_0 : decode cX6_cellsNamed 0 = .ok (.aload_n 1, 1) := by decide +kernel
theorem dX6_cellsNamed_1 : decode cX6_cellsNamed 1 = .ok (.ifnonnull 5, 3) := by decide +kernel
theorem dX6_cellsNamed_4 : decode cX6_cellsNamed 4 = .ok (.lconst 0, 1) := by decide +kernel
theorem dX6_cellsNamed_5 : decode cX6_cellsNamed 5 = .ok (.lreturn, 1) := by decide +kernel
theorem dX6_cellsNamed_6 : decode cX6_cellsNamed 6 = .ok (.aload_n 1, 1) := by decide +kernel
theorem dX6_cellsNamed_7 : decode cX6_cellsNamed 7 = .ok (.getfield 111, 3) := by decide +kernel
theorem dX6_cellsNamed_10 : decode cX6_cellsNamed 10 = .ok (.bipush 97, 2) := by decide +kernel
theorem dX6_cellsNamed_12 : decode cX6_cellsNamed 12 = .ok (.if_icmp .ne 16, 3) := by decide +kernel
theorem dX6_cellsNamed_15 : decode cX6_cellsNamed 15 = .ok (.aload_n 0, 1) := by decide +kernel
theorem dX6_cellsNamed_16 : decode cX6_cellsNamed 16 = .ok (.aload_n 1, 1) := by decide +kernel
theorem dX6_cellsNamed_17 : decode cX6_cellsNamed 17 = .ok (.getfield 117, 3) := by decide +kernel
theorem dX6_cellsNamed_20 : decode cX6_cellsNamed 20 = .ok (.iload_n 2, 1) := by decide +kernel
theorem dX6_cellsNamed_21 : decode cX6_cellsNamed 21 = .ok (.invokevirtual 120, 3) := by decide +kernel
theorem dX6_cellsNamed_24 : decode cX6_cellsNamed 24 = .ok (.invokestatic 100, 3) := by decide +kernel
theorem dX6_cellsNamed_27 : decode cX6_cellsNamed 27 = .ok (.lreturn, 1) := by decide +kernel
theorem dX6_cellsNamed_28 : decode cX6_cellsNamed 28 = .ok (.aload_n 1, 1) := by decide +kernel
theorem dX6_cellsNamed_29 : decode cX6_cellsNamed 29 = .ok (.getfield 111, 3) := by decide +kernel
theorem dX6_cellsNamed_32 : decode cX6_cellsNamed 32 = .ok (.bipush 35, 2) := by decide +kernel
theorem dX6_cellsNamed_34 : decode cX6_cellsNamed 34 = .ok (.if_icmp .ne 47, 3) := by decide +kernel
theorem dX6_cellsNamed_37 : decode cX6_cellsNamed 37 = .ok (.lconst 0, 1) := by decide +kernel
theorem dX6_cellsNamed_38 : decode cX6_cellsNamed 38 = .ok (.lstore_n 3, 1) := by decide +kernel
theorem dX6_cellsNamed_39 : decode cX6_cellsNamed 39 = .ok (.iconst 0, 1) := by decide +kernel
theorem dX6_cellsNamed_40 : decode cX6_cellsNamed 40 = .ok (.istore 5, 2) := by decide +kernel
theorem dX6_cellsNamed_42 : decode cX6_cellsNamed 42 = .ok (.iload 5, 2) := by decide +kernel
theorem dX6_cellsNamed_44 : decode cX6_cellsNamed 44 = .ok (.aload_n 0, 1) := by decide +kernel
theorem dX6_cellsNamed_45 : decode cX6_cellsNamed 45 = .ok (.getfield 26, 3) := by decide +kernel
theorem dX6_cellsNamed_48 : decode cX6_cellsNamed 48 = .ok (.aload_n 1, 1) := by decide +kernel
theorem dX6_cellsNamed_49 : decode cX6_cellsNamed 49 = .ok (.getfield 117, 3) := by decide +kernel
theorem dX6_cellsNamed_52 : decode cX6_cellsNamed 52 = .ok (.invokevirtual 69, 3) := by decide +kernel
theorem dX6_cellsNamed_55 : decode cX6_cellsNamed 55 = .ok (.if_icmp .ge 24, 3) := by decide +kernel
theorem dX6_cellsNamed_58 : decode cX6_cellsNamed 58 = .ok (.lload_n 3, 1) := by decide +kernel
theorem dX6_cellsNamed_59 : decode cX6_cellsNamed 59 = .ok (.aload_n 1, 1) := by decide +kernel
theorem dX6_cellsNamed_60 : decode cX6_cellsNamed 60 = .ok (.getfield 117, 3) := by decide +kernel
theorem dX6_cellsNamed_63 : decode cX6_cellsNamed 63 = .ok (.iload 5, 2) := by decide +kernel
theorem dX6_cellsNamed_65 : decode cX6_cellsNamed 65 = .ok (.invokestatic 51, 3) := by decide +kernel
theorem dX6_cellsNamed_68 : decode cX6_cellsNamed 68 = .ok (.invokestatic 100, 3) := by decide +kernel
theorem dX6_cellsNamed_71 : decode cX6_cellsNamed 71 = .ok (.lor, 1) := by decide +kernel
theorem dX6_cellsNamed_72 : decode cX6_cellsNamed 72 = .ok (.lstore_n 3, 1) := by decide +kernel
theorem dX6_cellsNamed_73 : decode cX6_cellsNamed 73 = .ok (.iinc 5 1, 3) := by decide +kernel
theorem dX6_cellsNamed_76 : decode cX6_cellsNamed 76 = .ok (.goto (-34), 3) := by decide +kernel
theorem dX6_cellsNamed_79 : decode cX6_cellsNamed 79 = .ok (.lload_n 3, 1) := by decide +kernel
theorem dX6_cellsNamed_80 : decode cX6_cellsNamed 80 = .ok (.lreturn, 1) := by decide +kernel
theorem dX6_cellsNamed_81 : decode cX6_cellsNamed 81 = .ok (.aload_n 0, 1) := by decide +kernel
theorem dX6_cellsNamed_82 : decode cX6_cellsNamed 82 = .ok (.aload_n 1, 1) := by decide +kernel
theorem dX6_cellsNamed_83 : decode cX6_cellsNamed 83 = .ok (.getfield 123, 3) := by decide +kernel
theorem dX6_cellsNamed_86 : decode cX6_cellsNamed 86 = .ok (.iload_n 2, 1) := by decide +kernel
theorem dX6_cellsNamed_87 : decode cX6_cellsNamed 87 = .ok (.invokevirtual 96, 3) := by decide +kernel
theorem dX6_cellsNamed_90 : decode cX6_cellsNamed 90 = .ok (.aload_n 0, 1) := by decide +kernel
theorem dX6_cellsNamed_91 : decode cX6_cellsNamed 91 = .ok (.aload_n 1, 1) := by decide +kernel
theorem dX6_cellsNamed_92 : decode cX6_cellsNamed 92 = .ok (.getfield 126, 3) := by decide +kernel
theorem dX6_cellsNamed_95 : decode cX6_cellsNamed 95 = .ok (.iload_n 2, 1) := by decide +kernel
theorem dX6_cellsNamed_96 : decode cX6_cellsNamed 96 = .ok (.invokevirtual 96, 3) := by decide +kernel
theorem dX6_cellsNamed_99 : decode cX6_cellsNamed 99 = .ok (.lor, 1) := by decide +kernel
theorem dX6_cellsNamed_100 : decode cX6_cellsNamed 100 = .ok (.aload_n 0, 1) := by decide +kernel
theorem dX6_cellsNamed_101 : decode cX6_cellsNamed 101 = .ok (.aload_n 1, 1) := by decide +kernel
theorem dX6_cellsNamed_102 : decode cX6_cellsNamed 102 = .ok (.getfield 129, 3) := by decide +kernel
theorem dX6_cellsNamed_105 : decode cX6_cellsNamed 105 = .ok (.iload_n 2, 1) := by decide +kernel
theorem dX6_cellsNamed_106 : decode cX6_cellsNamed 106 = .ok (.invokevirtual 96, 3) := by decide +kernel
theorem dX6_cellsNamed_109 : decode cX6_cellsNamed 109 = .ok (.lor, 1) := by decide +kernel
theorem dX6_cellsNamed_110 : decode cX6_cellsNamed 110 = .ok (.lreturn, 1) := by decide +kernel
theorem dX6_cellNamed_0 : decode cX6_cellNamed 0 = .ok (.iload_n 1, 1) := by decide +kernel
theorem dX6_cellNamed_1 : decode cX6_cellNamed 1 = .ok (.aload_n 0, 1) := by decide +kernel
theorem dX6_cellNamed_2 : decode cX6_cellNamed 2 = .ok (.getfield 26, 3) := by decide +kernel
theorem dX6_cellNamed_5 : decode cX6_cellNamed 5 = .ok (.iload_n 1, 1) := by decide +kernel
theorem dX6_cellNamed_6 : decode cX6_cellNamed 6 = .ok (.invokevirtual 47, 3) := by decide +kernel
theorem dX6_cellNamed_9 : decode cX6_cellNamed 9 = .ok (.ifCond .eq 7, 3) := by decide +kernel
theorem dX6_cellNamed_12 : decode cX6_cellNamed 12 = .ok (.iload_n 2, 1) := by decide +kernel
theorem dX6_cellNamed_13 : decode cX6_cellNamed 13 = .ok (.goto 4, 3) := by decide +kernel
theorem dX6_cellNamed_16 : decode cX6_cellNamed 16 = .ok (.iconst 0, 1) := by decide +kernel
theorem dX6_cellNamed_17 : decode cX6_cellNamed 17 = .ok (.invokestatic 51, 3) := by decide +kernel
theorem dX6_cellNamed_20 : decode cX6_cellNamed 20 = .ok (.ireturn, 1) := by decide +kernel
theorem dX6_followHangs_0 : decode cX6_followHangs 0 = .ok (.iconst 0, 1) := by decide +kernel
theorem dX6_followHangs_1 : decode cX6_followHangs 1 = .ok (.istore_n 1, 1) := by decide +kernel
theorem dX6_followHangs_2 : decode cX6_followHangs 2 = .ok (.iload_n 1, 1) := by decide +kernel
theorem dX6_followHangs_3 : decode cX6_followHangs 3 = .ok (.bipush 64, 2) := by decide +kernel
theorem dX6_followHangs_5 : decode cX6_followHangs 5 = .ok (.if_icmp .ge 58, 3) := by decide +kernel
theorem dX6_followHangs_8 : decode cX6_followHangs 8 = .ok (.iconst 0, 1) := by decide +kernel
theorem dX6_followHangs_9 : decode cX6_followHangs 9 = .ok (.istore_n 2, 1) := by decide +kernel
theorem dX6_followHangs_10 : decode cX6_followHangs 10 = .ok (.iload_n 2, 1) := by decide +kernel
theorem dX6_followHangs_11 : decode cX6_followHangs 11 = .ok (.bipush 64, 2) := by decide +kernel
theorem dX6_followHangs_13 : decode cX6_followHangs 13 = .ok (.if_icmp .ge 44, 3) := by decide +kernel
theorem dX6_followHangs_16 : decode cX6_followHangs 16 = .ok (.aload_n 0, 1) := by decide +kernel
theorem dX6_followHangs_17 : decode cX6_followHangs 17 = .ok (.getfield 15, 3) := by decide +kernel
theorem dX6_followHangs_20 : decode cX6_followHangs 20 = .ok (.iload_n 1, 1) := by decide +kernel
theorem dX6_followHangs_21 : decode cX6_followHangs 21 = .ok (.laload, 1) := by decide +kernel
theorem dX6_followHangs_22 : decode cX6_followHangs 22 = .ok (.lconst 0, 1) := by decide +kernel
theorem dX6_followHangs_23 : decode cX6_followHangs 23 = .ok (.lcmp, 1) := by decide +kernel
theorem dX6_followHangs_24 : decode cX6_followHangs 24 = .ok (.ifCond .eq 33, 3) := by decide +kernel
theorem dX6_followHangs_27 : decode cX6_followHangs 27 = .ok (.aload_n 0, 1) := by decide +kernel
theorem dX6_followHangs_28 : decode cX6_followHangs 28 = .ok (.iload_n 2, 1) := by decide +kernel
theorem dX6_followHangs_29 : decode cX6_followHangs 29 = .ok (.iload_n 1, 1) := by decide +kernel
theorem dX6_followHangs_30 : decode cX6_followHangs 30 = .ok (.invokevirtual 76, 3) := by decide +kernel
theorem dX6_followHangs_33 : decode cX6_followHangs 33 = .ok (.ifCond .eq 18, 3) := by decide +kernel
theorem dX6_followHangs_36 : decode cX6_followHangs 36 = .ok (.aload_n 0, 1) := by decide +kernel
theorem dX6_followHangs_37 : decode cX6_followHangs 37 = .ok (.getfield 15, 3) := by decide +kernel
theorem dX6_followHangs_40 : decode cX6_followHangs 40 = .ok (.iload_n 2, 1) := by decide +kernel
theorem dX6_followHangs_41 : decode cX6_followHangs 41 = .ok (.dup2, 1) := by decide +kernel
theorem dX6_followHangs_42 : decode cX6_followHangs 42 = .ok (.laload, 1) := by decide +kernel
theorem dX6_followHangs_43 : decode cX6_followHangs 43 = .ok (.aload_n 0, 1) := by decide +kernel
theorem dX6_followHangs_44 : decode cX6_followHangs 44 = .ok (.getfield 15, 3) := by decide +kernel
theorem dX6_followHangs_47 : decode cX6_followHangs 47 = .ok (.iload_n 1, 1) := by decide +kernel
theorem dX6_followHangs_48 : decode cX6_followHangs 48 = .ok (.laload, 1) := by decide +kernel
theorem dX6_followHangs_49 : decode cX6_followHangs 49 = .ok (.lor, 1) := by decide +kernel
theorem dX6_followHangs_50 : decode cX6_followHangs 50 = .ok (.lastore, 1) := by decide +kernel
theorem dX6_followHangs_51 : decode cX6_followHangs 51 = .ok (.iinc 2 1, 3) := by decide +kernel
theorem dX6_followHangs_54 : decode cX6_followHangs 54 = .ok (.goto (-44), 3) := by decide +kernel
theorem dX6_followHangs_57 : decode cX6_followHangs 57 = .ok (.iinc 1 1, 3) := by decide +kernel
theorem dX6_followHangs_60 : decode cX6_followHangs 60 = .ok (.goto (-58), 3) := by decide +kernel
theorem dX6_followHangs_63 : decode cX6_followHangs 63 = .ok (.return_, 1) := by decide +kernel
theorem dX6_putInOrder_0 : decode cX6_putInOrder 0 = .ok (.lload_n 1, 1) := by decide +kernel
theorem dX6_putInOrder_1 : decode cX6_putInOrder 1 = .ok (.lstore_n 3, 1) := by decide +kernel
theorem dX6_putInOrder_2 : decode cX6_putInOrder 2 = .ok (.aload_n 0, 1) := by decide +kernel
theorem dX6_putInOrder_3 : decode cX6_putInOrder 3 = .ok (.iconst 0, 1) := by decide +kernel
theorem dX6_putInOrder_4 : decode cX6_putInOrder 4 = .ok (.putfield 22, 3) := by decide +kernel
theorem dX6_putInOrder_7 : decode cX6_putInOrder 7 = .ok (.iconst 0, 1) := by decide +kernel
theorem dX6_putInOrder_8 : decode cX6_putInOrder 8 = .ok (.istore 5, 2) := by decide +kernel
theorem dX6_putInOrder_10 : decode cX6_putInOrder 10 = .ok (.iload 5, 2) := by decide +kernel
theorem dX6_putInOrder_12 : decode cX6_putInOrder 12 = .ok (.bipush 64, 2) := by decide +kernel
theorem dX6_putInOrder_14 : decode cX6_putInOrder 14 = .ok (.if_icmp .ge 38, 3) := by decide +kernel
theorem dX6_putInOrder_17 : decode cX6_putInOrder 17 = .ok (.aload_n 0, 1) := by decide +kernel
theorem dX6_putInOrder_18 : decode cX6_putInOrder 18 = .ok (.iload 5, 2) := by decide +kernel
theorem dX6_putInOrder_20 : decode cX6_putInOrder 20 = .ok (.iload 5, 2) := by decide +kernel
theorem dX6_putInOrder_22 : decode cX6_putInOrder 22 = .ok (.invokevirtual 76, 3) := by decide +kernel
theorem dX6_putInOrder_25 : decode cX6_putInOrder 25 = .ok (.ifCond .eq 21, 3) := by decide +kernel
theorem dX6_putInOrder_28 : decode cX6_putInOrder 28 = .ok (.aload_n 0, 1) := by decide +kernel
theorem dX6_putInOrder_29 : decode cX6_putInOrder 29 = .ok (.iload 5, 2) := by decide +kernel
theorem dX6_putInOrder_31 : decode cX6_putInOrder 31 = .ok (.invokevirtual 132, 3) := by decide +kernel
theorem dX6_putInOrder_34 : decode cX6_putInOrder 34 = .ok (.lload_n 3, 1) := by decide +kernel
theorem dX6_putInOrder_35 : decode cX6_putInOrder 35 = .ok (.iload 5, 2) := by decide +kernel
theorem dX6_putInOrder_37 : decode cX6_putInOrder 37 = .ok (.invokestatic 100, 3) := by decide +kernel
theorem dX6_putInOrder_40 : decode cX6_putInOrder 40 = .ok (.ldc2_w 135, 3) := by decide +kernel
theorem dX6_putInOrder_43 : decode cX6_putInOrder 43 = .ok (.lxor, 1) := by decide +kernel
theorem dX6_putInOrder_44 : decode cX6_putInOrder 44 = .ok (.land, 1) := by decide +kernel
theorem dX6_putInOrder_45 : decode cX6_putInOrder 45 = .ok (.lstore_n 3, 1) := by decide +kernel
theorem dX6_putInOrder_46 : decode cX6_putInOrder 46 = .ok (.iinc 5 1, 3) := by decide +kernel
theorem dX6_putInOrder_49 : decode cX6_putInOrder 49 = .ok (.goto (-39), 3) := by decide +kernel
theorem dX6_putInOrder_52 : decode cX6_putInOrder 52 = .ok (.iconst 0, 1) := by decide +kernel
theorem dX6_putInOrder_53 : decode cX6_putInOrder 53 = .ok (.istore 5, 2) := by decide +kernel
theorem dX6_putInOrder_55 : decode cX6_putInOrder 55 = .ok (.iload 5, 2) := by decide +kernel
theorem dX6_putInOrder_57 : decode cX6_putInOrder 57 = .ok (.bipush 64, 2) := by decide +kernel
theorem dX6_putInOrder_59 : decode cX6_putInOrder 59 = .ok (.if_icmp .ge 75, 3) := by decide +kernel
theorem dX6_putInOrder_62 : decode cX6_putInOrder 62 = .ok (.lload_n 3, 1) := by decide +kernel
theorem dX6_putInOrder_63 : decode cX6_putInOrder 63 = .ok (.lconst 0, 1) := by decide +kernel
theorem dX6_putInOrder_64 : decode cX6_putInOrder 64 = .ok (.lcmp, 1) := by decide +kernel
theorem dX6_putInOrder_65 : decode cX6_putInOrder 65 = .ok (.ifCond .eq 69, 3) := by decide +kernel
theorem dX6_putInOrder_68 : decode cX6_putInOrder 68 = .ok (.iconst 0, 1) := by decide +kernel
theorem dX6_putInOrder_69 : decode cX6_putInOrder 69 = .ok (.istore 6, 2) := by decide +kernel
theorem dX6_putInOrder_71 : decode cX6_putInOrder 71 = .ok (.iload 6, 2) := by decide +kernel
theorem dX6_putInOrder_73 : decode cX6_putInOrder 73 = .ok (.bipush 64, 2) := by decide +kernel
theorem dX6_putInOrder_75 : decode cX6_putInOrder 75 = .ok (.if_icmp .ge 53, 3) := by decide +kernel
theorem dX6_putInOrder_78 : decode cX6_putInOrder 78 = .ok (.lload_n 3, 1) := by decide +kernel
theorem dX6_putInOrder_79 : decode cX6_putInOrder 79 = .ok (.iload 6, 2) := by decide +kernel
theorem dX6_putInOrder_81 : decode cX6_putInOrder 81 = .ok (.invokestatic 100, 3) := by decide +kernel
theorem dX6_putInOrder_84 : decode cX6_putInOrder 84 = .ok (.land, 1) := by decide +kernel
theorem dX6_putInOrder_85 : decode cX6_putInOrder 85 = .ok (.lconst 0, 1) := by decide +kernel
theorem dX6_putInOrder_86 : decode cX6_putInOrder 86 = .ok (.lcmp, 1) := by decide +kernel
theorem dX6_putInOrder_87 : decode cX6_putInOrder 87 = .ok (.ifCond .eq 35, 3) := by decide +kernel
theorem dX6_putInOrder_90 : decode cX6_putInOrder 90 = .ok (.aload_n 0, 1) := by decide +kernel
theorem dX6_putInOrder_91 : decode cX6_putInOrder 91 = .ok (.getfield 15, 3) := by decide +kernel
theorem dX6_putInOrder_94 : decode cX6_putInOrder 94 = .ok (.iload 6, 2) := by decide +kernel
theorem dX6_putInOrder_96 : decode cX6_putInOrder 96 = .ok (.laload, 1) := by decide +kernel
theorem dX6_putInOrder_97 : decode cX6_putInOrder 97 = .ok (.lload_n 3, 1) := by decide +kernel
theorem dX6_putInOrder_98 : decode cX6_putInOrder 98 = .ok (.land, 1) := by decide +kernel
theorem dX6_putInOrder_99 : decode cX6_putInOrder 99 = .ok (.lconst 0, 1) := by decide +kernel
theorem dX6_putInOrder_100 : decode cX6_putInOrder 100 = .ok (.lcmp, 1) := by decide +kernel
theorem dX6_putInOrder_101 : decode cX6_putInOrder 101 = .ok (.ifCond .ne 21, 3) := by decide +kernel
theorem dX6_putInOrder_104 : decode cX6_putInOrder 104 = .ok (.aload_n 0, 1) := by decide +kernel
theorem dX6_putInOrder_105 : decode cX6_putInOrder 105 = .ok (.iload 6, 2) := by decide +kernel
theorem dX6_putInOrder_107 : decode cX6_putInOrder 107 = .ok (.invokevirtual 132, 3) := by decide +kernel
theorem dX6_putInOrder_110 : decode cX6_putInOrder 110 = .ok (.lload_n 3, 1) := by decide +kernel
theorem dX6_putInOrder_111 : decode cX6_putInOrder 111 = .ok (.iload 6, 2) := by decide +kernel
theorem dX6_putInOrder_113 : decode cX6_putInOrder 113 = .ok (.invokestatic 100, 3) := by decide +kernel
theorem dX6_putInOrder_116 : decode cX6_putInOrder 116 = .ok (.ldc2_w 135, 3) := by decide +kernel
theorem dX6_putInOrder_119 : decode cX6_putInOrder 119 = .ok (.lxor, 1) := by decide +kernel
theorem dX6_putInOrder_120 : decode cX6_putInOrder 120 = .ok (.land, 1) := by decide +kernel
theorem dX6_putInOrder_121 : decode cX6_putInOrder 121 = .ok (.lstore_n 3, 1) := by decide +kernel
theorem dX6_putInOrder_122 : decode cX6_putInOrder 122 = .ok (.iinc 6 1, 3) := by decide +kernel
theorem dX6_putInOrder_125 : decode cX6_putInOrder 125 = .ok (.goto (-54), 3) := by decide +kernel
theorem dX6_putInOrder_128 : decode cX6_putInOrder 128 = .ok (.iinc 5 1, 3) := by decide +kernel
theorem dX6_putInOrder_131 : decode cX6_putInOrder 131 = .ok (.goto (-76), 3) := by decide +kernel
theorem dX6_putInOrder_134 : decode cX6_putInOrder 134 = .ok (.return_, 1) := by decide +kernel
theorem dX6_append_0 : decode cX6_append 0 = .ok (.aload_n 0, 1) := by decide +kernel
theorem dX6_append_1 : decode cX6_append 1 = .ok (.getfield 22, 3) := by decide +kernel
theorem dX6_append_4 : decode cX6_append 4 = .ok (.bipush 64, 2) := by decide +kernel
theorem dX6_append_6 : decode cX6_append 6 = .ok (.if_icmp .ge 23, 3) := by decide +kernel
theorem dX6_append_9 : decode cX6_append 9 = .ok (.aload_n 0, 1) := by decide +kernel
theorem dX6_append_10 : decode cX6_append 10 = .ok (.getfield 18, 3) := by decide +kernel
theorem dX6_append_13 : decode cX6_append 13 = .ok (.aload_n 0, 1) := by decide +kernel
theorem dX6_append_14 : decode cX6_append 14 = .ok (.getfield 22, 3) := by decide +kernel
theorem dX6_append_17 : decode cX6_append 17 = .ok (.iload_n 1, 1) := by decide +kernel
theorem dX6_append_18 : decode cX6_append 18 = .ok (.iastore, 1) := by decide +kernel
theorem dX6_append_19 : decode cX6_append 19 = .ok (.aload_n 0, 1) := by decide +kernel
theorem dX6_append_20 : decode cX6_append 20 = .ok (.dup, 1) := by decide +kernel
theorem dX6_append_21 : decode cX6_append 21 = .ok (.getfield 22, 3) := by decide +kernel
theorem dX6_append_24 : decode cX6_append 24 = .ok (.iconst 1, 1) := by decide +kernel
theorem dX6_append_25 : decode cX6_append 25 = .ok (.iadd, 1) := by decide +kernel
theorem dX6_append_26 : decode cX6_append 26 = .ok (.putfield 22, 3) := by decide +kernel
theorem dX6_append_29 : decode cX6_append 29 = .ok (.return_, 1) := by decide +kernel
theorem dX6_hangsOn_0 : decode cX6_hangsOn 0 = .ok (.aload_n 0, 1) := by decide +kernel
theorem dX6_hangsOn_1 : decode cX6_hangsOn 1 = .ok (.getfield 15, 3) := by decide +kernel
theorem dX6_hangsOn_4 : decode cX6_hangsOn 4 = .ok (.iload_n 1, 1) := by decide +kernel
theorem dX6_hangsOn_5 : decode cX6_hangsOn 5 = .ok (.laload, 1) := by decide +kernel
theorem dX6_hangsOn_6 : decode cX6_hangsOn 6 = .ok (.iload_n 2, 1) := by decide +kernel
theorem dX6_hangsOn_7 : decode cX6_hangsOn 7 = .ok (.invokestatic 100, 3) := by decide +kernel
theorem dX6_hangsOn_10 : decode cX6_hangsOn 10 = .ok (.land, 1) := by decide +kernel
theorem dX6_hangsOn_11 : decode cX6_hangsOn 11 = .ok (.lconst 0, 1) := by decide +kernel
theorem dX6_hangsOn_12 : decode cX6_hangsOn 12 = .ok (.lcmp, 1) := by decide +kernel
theorem dX6_hangsOn_13 : decode cX6_hangsOn 13 = .ok (.ifCond .eq 7, 3) := by decide +kernel
theorem dX6_hangsOn_16 : decode cX6_hangsOn 16 = .ok (.iconst 1, 1) := by decide +kernel
theorem dX6_hangsOn_17 : decode cX6_hangsOn 17 = .ok (.goto 4, 3) := by decide +kernel
theorem dX6_hangsOn_20 : decode cX6_hangsOn 20 = .ok (.iconst 0, 1) := by decide +kernel
theorem dX6_hangsOn_21 : decode cX6_hangsOn 21 = .ok (.ireturn, 1) := by decide +kernel
theorem dX6_setOf_0 : decode cX6_setOf 0 = .ok (.lconst 1, 1) := by decide +kernel
theorem dX6_setOf_1 : decode cX6_setOf 1 = .ok (.iload_n 0, 1) := by decide +kernel
theorem dX6_setOf_2 : decode cX6_setOf 2 = .ok (.lshl, 1) := by decide +kernel
theorem dX6_setOf_3 : decode cX6_setOf 3 = .ok (.lreturn, 1) := by decide +kernel
theorem dX6_workOut_0 : decode cX6_workOut 0 = .ok (.iload_n 1, 1) := by decide +kernel
theorem dX6_workOut_1 : decode cX6_workOut 1 = .ok (.iconst 4, 1) := by decide +kernel
theorem dX6_workOut_2 : decode cX6_workOut 2 = .ok (.idiv, 1) := by decide +kernel
theorem dX6_workOut_3 : decode cX6_workOut 3 = .ok (.istore_n 2, 1) := by decide +kernel
theorem dX6_workOut_4 : decode cX6_workOut 4 = .ok (.aload_n 0, 1) := by decide +kernel
theorem dX6_workOut_5 : decode cX6_workOut 5 = .ok (.getfield 26, 3) := by decide +kernel
theorem dX6_workOut_8 : decode cX6_workOut 8 = .ok (.iload_n 2, 1) := by decide +kernel
theorem dX6_workOut_9 : decode cX6_workOut 9 = .ok (.iload_n 1, 1) := by decide +kernel
theorem dX6_workOut_10 : decode cX6_workOut 10 = .ok (.iconst 4, 1) := by decide +kernel
theorem dX6_workOut_11 : decode cX6_workOut 11 = .ok (.irem, 1) := by decide +kernel
theorem dX6_workOut_12 : decode cX6_workOut 12 = .ok (.invokevirtual 54, 3) := by decide +kernel
theorem dX6_workOut_15 : decode cX6_workOut 15 = .ok (.ifCond .eq 43, 3) := by decide +kernel
theorem dX6_workOut_18 : decode cX6_workOut 18 = .ok (.aload_n 0, 1) := by decide +kernel
theorem dX6_workOut_19 : decode cX6_workOut 19 = .ok (.getfield 9, 3) := by decide +kernel
theorem dX6_workOut_22 : decode cX6_workOut 22 = .ok (.iload_n 1, 1) := by decide +kernel
theorem dX6_workOut_23 : decode cX6_workOut 23 = .ok (.aload_n 0, 1) := by decide +kernel
theorem dX6_workOut_24 : decode cX6_workOut 24 = .ok (.iload_n 1, 1) := by decide +kernel
theorem dX6_workOut_25 : decode cX6_workOut 25 = .ok (.iload_n 1, 1) := by decide +kernel
theorem dX6_workOut_26 : decode cX6_workOut 26 = .ok (.invokevirtual 76, 3) := by decide +kernel
theorem dX6_workOut_29 : decode cX6_workOut 29 = .ok (.ifCond .eq 9, 3) := by decide +kernel
theorem dX6_workOut_32 : decode cX6_workOut 32 = .ok (.ldc2_w 137, 3) := by decide +kernel
theorem dX6_workOut_35 : decode cX6_workOut 35 = .ok (.goto 22, 3) := by decide +kernel
theorem dX6_workOut_38 : decode cX6_workOut 38 = .ok (.aload_n 0, 1) := by decide +kernel
theorem dX6_workOut_39 : decode cX6_workOut 39 = .ok (.aload_n 0, 1) := by decide +kernel
theorem dX6_workOut_40 : decode cX6_workOut 40 = .ok (.getfield 26, 3) := by decide +kernel
theorem dX6_workOut_43 : decode cX6_workOut 43 = .ok (.getfield 86, 3) := by decide +kernel
theorem dX6_workOut_46 : decode cX6_workOut 46 = .ok (.iload_n 2, 1) := by decide +kernel
theorem dX6_workOut_47 : decode cX6_workOut 47 = .ok (.aaload, 1) := by decide +kernel
theorem dX6_workOut_48 : decode cX6_workOut 48 = .ok (.getfield 90, 3) := by decide +kernel
theorem dX6_workOut_51 : decode cX6_workOut 51 = .ok (.iload_n 1, 1) := by decide +kernel
theorem dX6_workOut_52 : decode cX6_workOut 52 = .ok (.iconst 4, 1) := by decide +kernel
theorem dX6_workOut_53 : decode cX6_workOut 53 = .ok (.irem, 1) := by decide +kernel
theorem dX6_workOut_54 : decode cX6_workOut 54 = .ok (.invokevirtual 139, 3) := by decide +kernel
theorem dX6_workOut_57 : decode cX6_workOut 57 = .ok (.lastore, 1) := by decide +kernel
theorem dX6_workOut_58 : decode cX6_workOut 58 = .ok (.return_, 1) := by decide +kernel
theorem dX6_worth_0 : decode cX6_worth 0 = .ok (.aload_n 1, 1) := by decide +kernel
theorem dX6_worth_1 : decode cX6_worth 1 = .ok (.ifnonnull 5, 3) := by decide +kernel
theorem dX6_worth_4 : decode cX6_worth 4 = .ok (.lconst 0, 1) := by decide +kernel
theorem dX6_worth_5 : decode cX6_worth 5 = .ok (.lreturn, 1) := by decide +kernel
theorem dX6_worth_6 : decode cX6_worth 6 = .ok (.aload_n 1, 1) := by decide +kernel
theorem dX6_worth_7 : decode cX6_worth 7 = .ok (.getfield 111, 3) := by decide +kernel
theorem dX6_worth_10 : decode cX6_worth 10 = .ok (.lookupswitch 76 #[(35, 67), (48, 34), (97, 39)], 34) := by decide +kernel
theorem dX6_worth_44 : decode cX6_worth 44 = .ok (.aload_n 1, 1) := by decide +kernel
theorem dX6_worth_45 : decode cX6_worth 45 = .ok (.getfield 142, 3) := by decide +kernel
theorem dX6_worth_48 : decode cX6_worth 48 = .ok (.lreturn, 1) := by decide +kernel
theorem dX6_worth_49 : decode cX6_worth 49 = .ok (.aload_n 0, 1) := by decide +kernel
theorem dX6_worth_50 : decode cX6_worth 50 = .ok (.aload_n 1, 1) := by decide +kernel
theorem dX6_worth_51 : decode cX6_worth 51 = .ok (.getfield 117, 3) := by decide +kernel
theorem dX6_worth_54 : decode cX6_worth 54 = .ok (.aload_n 0, 1) := by decide +kernel
theorem dX6_worth_55 : decode cX6_worth 55 = .ok (.getfield 26, 3) := by decide +kernel
theorem dX6_worth_58 : decode cX6_worth 58 = .ok (.aload_n 1, 1) := by decide +kernel
theorem dX6_worth_59 : decode cX6_worth 59 = .ok (.getfield 117, 3) := by decide +kernel
theorem dX6_worth_62 : decode cX6_worth 62 = .ok (.invokevirtual 47, 3) := by decide +kernel
theorem dX6_worth_65 : decode cX6_worth 65 = .ok (.ifCond .eq 7, 3) := by decide +kernel
theorem dX6_worth_68 : decode cX6_worth 68 = .ok (.iload_n 2, 1) := by decide +kernel
theorem dX6_worth_69 : decode cX6_worth 69 = .ok (.goto 4, 3) := by decide +kernel
theorem dX6_worth_72 : decode cX6_worth 72 = .ok (.iconst 0, 1) := by decide +kernel
theorem dX6_worth_73 : decode cX6_worth 73 = .ok (.invokevirtual 61, 3) := by decide +kernel
theorem dX6_worth_76 : decode cX6_worth 76 = .ok (.lreturn, 1) := by decide +kernel
theorem dX6_worth_77 : decode cX6_worth 77 = .ok (.aload_n 0, 1) := by decide +kernel
theorem dX6_worth_78 : decode cX6_worth 78 = .ok (.aload_n 1, 1) := by decide +kernel
theorem dX6_worth_79 : decode cX6_worth 79 = .ok (.getfield 117, 3) := by decide +kernel
theorem dX6_worth_82 : decode cX6_worth 82 = .ok (.invokevirtual 146, 3) := by decide +kernel
theorem dX6_worth_85 : decode cX6_worth 85 = .ok (.lreturn, 1) := by decide +kernel
theorem dX6_worth_86 : decode cX6_worth 86 = .ok (.aload_n 0, 1) := by decide +kernel
theorem dX6_worth_87 : decode cX6_worth 87 = .ok (.aload_n 1, 1) := by decide +kernel
theorem dX6_worth_88 : decode cX6_worth 88 = .ok (.getfield 123, 3) := by decide +kernel
theorem dX6_worth_91 : decode cX6_worth 91 = .ok (.iload_n 2, 1) := by decide +kernel
theorem dX6_worth_92 : decode cX6_worth 92 = .ok (.invokevirtual 139, 3) := by decide +kernel
theorem dX6_worth_95 : decode cX6_worth 95 = .ok (.lstore_n 3, 1) := by decide +kernel
theorem dX6_worth_96 : decode cX6_worth 96 = .ok (.lload_n 3, 1) := by decide +kernel
theorem dX6_worth_97 : decode cX6_worth 97 = .ok (.invokestatic 65, 3) := by decide +kernel
theorem dX6_worth_100 : decode cX6_worth 100 = .ok (.ifCond .eq 5, 3) := by decide +kernel
theorem dX6_worth_103 : decode cX6_worth 103 = .ok (.lload_n 3, 1) := by decide +kernel
theorem dX6_worth_104 : decode cX6_worth 104 = .ok (.lreturn, 1) := by decide +kernel
theorem dX6_worth_105 : decode cX6_worth 105 = .ok (.aload_n 1, 1) := by decide +kernel
theorem dX6_worth_106 : decode cX6_worth 106 = .ok (.getfield 111, 3) := by decide +kernel
theorem dX6_worth_109 : decode cX6_worth 109 = .ok (.bipush 63, 2) := by decide +kernel
theorem dX6_worth_111 : decode cX6_worth 111 = .ok (.if_icmp .ne 26, 3) := by decide +kernel
theorem dX6_worth_114 : decode cX6_worth 114 = .ok (.aload_n 0, 1) := by decide +kernel
theorem dX6_worth_115 : decode cX6_worth 115 = .ok (.lload_n 3, 1) := by decide +kernel
theorem dX6_worth_116 : decode cX6_worth 116 = .ok (.lconst 0, 1) := by decide +kernel
theorem dX6_worth_117 : decode cX6_worth 117 = .ok (.lcmp, 1) := by decide +kernel
theorem dX6_worth_118 : decode cX6_worth 118 = .ok (.ifCond .eq 10, 3) := by decide +kernel
theorem dX6_worth_121 : decode cX6_worth 121 = .ok (.aload_n 1, 1) := by decide +kernel
theorem dX6_worth_122 : decode cX6_worth 122 = .ok (.getfield 126, 3) := by decide +kernel
theorem dX6_worth_125 : decode cX6_worth 125 = .ok (.goto 7, 3) := by decide +kernel
theorem dX6_worth_128 : decode cX6_worth 128 = .ok (.aload_n 1, 1) := by decide +kernel
theorem dX6_worth_129 : decode cX6_worth 129 = .ok (.getfield 129, 3) := by decide +kernel
theorem dX6_worth_132 : decode cX6_worth 132 = .ok (.iload_n 2, 1) := by decide +kernel
theorem dX6_worth_133 : decode cX6_worth 133 = .ok (.invokevirtual 139, 3) := by decide +kernel
theorem dX6_worth_136 : decode cX6_worth 136 = .ok (.lreturn, 1) := by decide +kernel
theorem dX6_worth_137 : decode cX6_worth 137 = .ok (.aload_n 0, 1) := by decide +kernel
theorem dX6_worth_138 : decode cX6_worth 138 = .ok (.aload_n 1, 1) := by decide +kernel
theorem dX6_worth_139 : decode cX6_worth 139 = .ok (.getfield 126, 3) := by decide +kernel
theorem dX6_worth_142 : decode cX6_worth 142 = .ok (.iload_n 2, 1) := by decide +kernel
theorem dX6_worth_143 : decode cX6_worth 143 = .ok (.invokevirtual 139, 3) := by decide +kernel
theorem dX6_worth_146 : decode cX6_worth 146 = .ok (.lstore 5, 2) := by decide +kernel
theorem dX6_worth_148 : decode cX6_worth 148 = .ok (.lload 5, 2) := by decide +kernel
theorem dX6_worth_150 : decode cX6_worth 150 = .ok (.invokestatic 65, 3) := by decide +kernel
theorem dX6_worth_153 : decode cX6_worth 153 = .ok (.ifCond .eq 8, 3) := by decide +kernel
theorem dX6_worth_156 : decode cX6_worth 156 = .ok (.lload 5, 2) := by decide +kernel
theorem dX6_worth_158 : decode cX6_worth 158 = .ok (.goto 13, 3) := by decide +kernel
theorem dX6_worth_161 : decode cX6_worth 161 = .ok (.aload_n 1, 1) := by decide +kernel
theorem dX6_worth_162 : decode cX6_worth 162 = .ok (.getfield 111, 3) := by decide +kernel
theorem dX6_worth_165 : decode cX6_worth 165 = .ok (.lload_n 3, 1) := by decide +kernel
theorem dX6_worth_166 : decode cX6_worth 166 = .ok (.lload 5, 2) := by decide +kernel
theorem dX6_worth_168 : decode cX6_worth 168 = .ok (.invokestatic 149, 3) := by decide +kernel
theorem dX6_worth_171 : decode cX6_worth 171 = .ok (.lreturn, 1) := by decide +kernel
theorem dX6_total_0 : decode cX6_total 0 = .ok (.lconst 0, 1) := by decide +kernel
theorem dX6_total_1 : decode cX6_total 1 = .ok (.lstore_n 2, 1) := by decide +kernel
theorem dX6_total_2 : decode cX6_total 2 = .ok (.iconst 0, 1) := by decide +kernel
theorem dX6_total_3 : decode cX6_total 3 = .ok (.istore 4, 2) := by decide +kernel
theorem dX6_total_5 : decode cX6_total 5 = .ok (.iload 4, 2) := by decide +kernel
theorem dX6_total_7 : decode cX6_total 7 = .ok (.aload_n 0, 1) := by decide +kernel
theorem dX6_total_8 : decode cX6_total 8 = .ok (.getfield 26, 3) := by decide +kernel
theorem dX6_total_11 : decode cX6_total 11 = .ok (.iload_n 1, 1) := by decide +kernel
theorem dX6_total_12 : decode cX6_total 12 = .ok (.invokevirtual 69, 3) := by decide +kernel
theorem dX6_total_15 : decode cX6_total 15 = .ok (.if_icmp .ge 38, 3) := by decide +kernel
theorem dX6_total_18 : decode cX6_total 18 = .ok (.aload_n 0, 1) := by decide +kernel
theorem dX6_total_19 : decode cX6_total 19 = .ok (.getfield 9, 3) := by decide +kernel
theorem dX6_total_22 : decode cX6_total 22 = .ok (.iload_n 1, 1) := by decide +kernel
theorem dX6_total_23 : decode cX6_total 23 = .ok (.iload 4, 2) := by decide +kernel
theorem dX6_total_25 : decode cX6_total 25 = .ok (.invokestatic 51, 3) := by decide +kernel
theorem dX6_total_28 : decode cX6_total 28 = .ok (.laload, 1) := by decide +kernel
theorem dX6_total_29 : decode cX6_total 29 = .ok (.lstore 5, 2) := by decide +kernel
theorem dX6_total_31 : decode cX6_total 31 = .ok (.lload 5, 2) := by decide +kernel
theorem dX6_total_33 : decode cX6_total 33 = .ok (.invokestatic 65, 3) := by decide +kernel
theorem dX6_total_36 : decode cX6_total 36 = .ok (.ifCond .eq 6, 3) := by decide +kernel
theorem dX6_total_39 : decode cX6_total 39 = .ok (.lload 5, 2) := by decide +kernel
theorem dX6_total_41 : decode cX6_total 41 = .ok (.lreturn, 1) := by decide +kernel
theorem dX6_total_42 : decode cX6_total 42 = .ok (.lload_n 2, 1) := by decide +kernel
theorem dX6_total_43 : decode cX6_total 43 = .ok (.lload 5, 2) := by decide +kernel
theorem dX6_total_45 : decode cX6_total 45 = .ok (.ladd, 1) := by decide +kernel
theorem dX6_total_46 : decode cX6_total 46 = .ok (.lstore_n 2, 1) := by decide +kernel
theorem dX6_total_47 : decode cX6_total 47 = .ok (.iinc 4 1, 3) := by decide +kernel
theorem dX6_total_50 : decode cX6_total 50 = .ok (.goto (-45), 3) := by decide +kernel
theorem dX6_total_53 : decode cX6_total 53 = .ok (.lload_n 2, 1) := by decide +kernel
theorem dX6_total_54 : decode cX6_total 54 = .ok (.invokestatic 153, 3) := by decide +kernel
theorem dX6_total_57 : decode cX6_total 57 = .ok (.lreturn, 1) := by decide +kernel
theorem dX6_operate_0 : decode cX6_operate 0 = .ok (.iload_n 0, 1) := by decide +kernel
theorem dX6_operate_1 : decode cX6_operate 1 = .ok (.lookupswitch 91 #[(42, 65), (43, 51), (45, 58), (47, 71), (60, 77)], 51) := by decide +kernel
theorem dX6_operate_52 : decode cX6_operate 52 = .ok (.lload_n 1, 1) := by decide +kernel
theorem dX6_operate_53 : decode cX6_operate 53 = .ok (.lload_n 3, 1) := by decide +kernel
theorem dX6_operate_54 : decode cX6_operate 54 = .ok (.ladd, 1) := by decide +kernel
theorem dX6_operate_55 : decode cX6_operate 55 = .ok (.invokestatic 153, 3) := by decide +kernel
theorem dX6_operate_58 : decode cX6_operate 58 = .ok (.lreturn, 1) := by decide +kernel
theorem dX6_operate_59 : decode cX6_operate 59 = .ok (.lload_n 1, 1) := by decide +kernel
theorem dX6_operate_60 : decode cX6_operate 60 = .ok (.lload_n 3, 1) := by decide +kernel
theorem dX6_operate_61 : decode cX6_operate 61 = .ok (.lsub, 1) := by decide +kernel
theorem dX6_operate_62 : decode cX6_operate 62 = .ok (.invokestatic 153, 3) := by decide +kernel
theorem dX6_operate_65 : decode cX6_operate 65 = .ok (.lreturn, 1) := by decide +kernel
theorem dX6_operate_66 : decode cX6_operate 66 = .ok (.lload_n 1, 1) := by decide +kernel
theorem dX6_operate_67 : decode cX6_operate 67 = .ok (.lload_n 3, 1) := by decide +kernel
theorem dX6_operate_68 : decode cX6_operate 68 = .ok (.invokestatic 159, 3) := by decide +kernel
theorem dX6_operate_71 : decode cX6_operate 71 = .ok (.lreturn, 1) := by decide +kernel
theorem dX6_operate_72 : decode cX6_operate 72 = .ok (.lload_n 1, 1) := by decide +kernel
theorem dX6_operate_73 : decode cX6_operate 73 = .ok (.lload_n 3, 1) := by decide +kernel
theorem dX6_operate_74 : decode cX6_operate 74 = .ok (.invokestatic 163, 3) := by decide +kernel
theorem dX6_operate_77 : decode cX6_operate 77 = .ok (.lreturn, 1) := by decide +kernel
theorem dX6_operate_78 : decode cX6_operate 78 = .ok (.lload_n 1, 1) := by decide +kernel
theorem dX6_operate_79 : decode cX6_operate 79 = .ok (.lload_n 3, 1) := by decide +kernel
theorem dX6_operate_80 : decode cX6_operate 80 = .ok (.lcmp, 1) := by decide +kernel
theorem dX6_operate_81 : decode cX6_operate 81 = .ok (.ifCond .ge 9, 3) := by decide +kernel
theorem dX6_operate_84 : decode cX6_operate 84 = .ok (.ldc2_w 166, 3) := by decide +kernel
theorem dX6_operate_87 : decode cX6_operate 87 = .ok (.goto 4, 3) := by decide +kernel
theorem dX6_operate_90 : decode cX6_operate 90 = .ok (.lconst 0, 1) := by decide +kernel
theorem dX6_operate_91 : decode cX6_operate 91 = .ok (.lreturn, 1) := by decide +kernel
theorem dX6_operate_92 : decode cX6_operate 92 = .ok (.lload_n 1, 1) := by decide +kernel
theorem dX6_operate_93 : decode cX6_operate 93 = .ok (.lload_n 3, 1) := by decide +kernel
theorem dX6_operate_94 : decode cX6_operate 94 = .ok (.lcmp, 1) := by decide +kernel
theorem dX6_operate_95 : decode cX6_operate 95 = .ok (.ifCond .ne 9, 3) := by decide +kernel
theorem dX6_operate_98 : decode cX6_operate 98 = .ok (.ldc2_w 166, 3) := by decide +kernel
theorem dX6_operate_101 : decode cX6_operate 101 = .ok (.goto 4, 3) := by decide +kernel
theorem dX6_operate_104 : decode cX6_operate 104 = .ok (.lconst 0, 1) := by decide +kernel
theorem dX6_operate_105 : decode cX6_operate 105 = .ok (.lreturn, 1) := by decide +kernel
theorem dX7_init_0 : decode cX7_init 0 = .ok (.aload_n 0, 1) := by decide +kernel
theorem dX7_init_1 : decode cX7_init 1 = .ok (.invokespecial 3, 3) := by decide +kernel
theorem dX7_init_4 : decode cX7_init 4 = .ok (.aload_n 0, 1) := by decide +kernel
theorem dX7_init_5 : decode cX7_init 5 = .ok (.iconst (-1), 1) := by decide +kernel
theorem dX7_init_6 : decode cX7_init 6 = .ok (.putfield 9, 3) := by decide +kernel
theorem dX7_init_9 : decode cX7_init 9 = .ok (.aload_n 0, 1) := by decide +kernel
theorem dX7_init_10 : decode cX7_init 10 = .ok (.iconst 0, 1) := by decide +kernel
theorem dX7_init_11 : decode cX7_init 11 = .ok (.putfield 13, 3) := by decide +kernel
theorem dX7_init_14 : decode cX7_init 14 = .ok (.aload_n 0, 1) := by decide +kernel
theorem dX7_init_15 : decode cX7_init 15 = .ok (.new 17, 3) := by decide +kernel
theorem dX7_init_18 : decode cX7_init 18 = .ok (.dup, 1) := by decide +kernel
theorem dX7_init_19 : decode cX7_init 19 = .ok (.invokespecial 19, 3) := by decide +kernel
theorem dX7_init_22 : decode cX7_init 22 = .ok (.putfield 20, 3) := by decide +kernel
theorem dX7_init_25 : decode cX7_init 25 = .ok (.aload_n 0, 1) := by decide +kernel
theorem dX7_init_26 : decode cX7_init 26 = .ok (.new 24, 3) := by decide +kernel
theorem dX7_init_29 : decode cX7_init 29 = .ok (.dup, 1) := by decide +kernel
theorem dX7_init_30 : decode cX7_init 30 = .ok (.invokespecial 26, 3) := by decide +kernel
theorem dX7_init_33 : decode cX7_init 33 = .ok (.putfield 27, 3) := by decide +kernel
theorem dX7_init_36 : decode cX7_init 36 = .ok (.aload_n 0, 1) := by decide +kernel
theorem dX7_init_37 : decode cX7_init 37 = .ok (.new 31, 3) := by decide +kernel
theorem dX7_init_40 : decode cX7_init 40 = .ok (.dup, 1) := by decide +kernel
theorem dX7_init_41 : decode cX7_init 41 = .ok (.aload_n 0, 1) := by decide +kernel
theorem dX7_init_42 : decode cX7_init 42 = .ok (.getfield 27, 3) := by decide +kernel
theorem dX7_init_45 : decode cX7_init 45 = .ok (.invokespecial 33, 3) := by decide +kernel
theorem dX7_init_48 : decode cX7_init 48 = .ok (.putfield 36, 3) := by decide +kernel
theorem dX7_init_51 : decode cX7_init 51 = .ok (.aload_n 0, 1) := by decide +kernel
theorem dX7_init_52 : decode cX7_init 52 = .ok (.new 40, 3) := by decide +kernel
theorem dX7_init_55 : decode cX7_init 55 = .ok (.dup, 1) := by decide +kernel
theorem dX7_init_56 : decode cX7_init 56 = .ok (.aload_n 0, 1) := by decide +kernel
theorem dX7_init_57 : decode cX7_init 57 = .ok (.getfield 27, 3) := by decide +kernel
theorem dX7_init_60 : decode cX7_init 60 = .ok (.aload_n 0, 1) := by decide +kernel
theorem dX7_init_61 : decode cX7_init 61 = .ok (.getfield 36, 3) := by decide +kernel
theorem dX7_init_64 : decode cX7_init 64 = .ok (.iconst 4, 1) := by decide +kernel
theorem dX7_init_65 : decode cX7_init 65 = .ok (.bipush 20, 2) := by decide +kernel
theorem dX7_init_67 : decode cX7_init 67 = .ok (.iload_n 1, 1) := by decide +kernel
theorem dX7_init_68 : decode cX7_init 68 = .ok (.invokestatic 42, 3) := by decide +kernel
theorem dX7_init_71 : decode cX7_init 71 = .ok (.invokestatic 48, 3) := by decide +kernel
theorem dX7_init_74 : decode cX7_init 74 = .ok (.invokespecial 51, 3) := by decide +kernel
theorem dX7_init_77 : decode cX7_init 77 = .ok (.putfield 54, 3) := by decide +kernel
theorem dX7_init_80 : decode cX7_init 80 = .ok (.return_, 1) := by decide +kernel
theorem dX7_write_0 : decode cX7_write 0 = .ok (.aload_n 0, 1) := by decide +kernel
theorem dX7_write_1 : decode cX7_write 1 = .ok (.getfield 20, 3) := by decide +kernel
theorem dX7_write_4 : decode cX7_write 4 = .ok (.lload_n 1, 1) := by decide +kernel
theorem dX7_write_5 : decode cX7_write 5 = .ok (.invokevirtual 58, 3) := by decide +kernel
theorem dX7_write_8 : decode cX7_write 8 = .ok (.ireturn, 1) := by decide +kernel
theorem dX7_add_0 : decode cX7_add 0 = .ok (.aload_n 0, 1) := by decide +kernel
theorem dX7_add_1 : decode cX7_add 1 = .ok (.getfield 20, 3) := by decide +kernel
theorem dX7_add_4 : decode cX7_add 4 = .ok (.invokevirtual 62, 3) := by decide +kernel
theorem dX7_add_7 : decode cX7_add 7 = .ok (.astore_n 1, 1) := by decide +kernel
theorem dX7_add_8 : decode cX7_add 8 = .ok (.aload_n 0, 1) := by decide +kernel
theorem dX7_add_9 : decode cX7_add 9 = .ok (.aload_n 1, 1) := by decide +kernel
theorem dX7_add_10 : decode cX7_add 10 = .ok (.ifnonnull 13, 3) := by decide +kernel
theorem dX7_add_13 : decode cX7_add 13 = .ok (.aload_n 0, 1) := by decide +kernel
theorem dX7_add_14 : decode cX7_add 14 = .ok (.getfield 20, 3) := by decide +kernel
theorem dX7_add_17 : decode cX7_add 17 = .ok (.invokevirtual 66, 3) := by decide +kernel
theorem dX7_add_20 : decode cX7_add 20 = .ok (.goto 4, 3) := by decide +kernel
theorem dX7_add_23 : decode cX7_add 23 = .ok (.iconst (-1), 1) := by decide +kernel
theorem dX7_add_24 : decode cX7_add 24 = .ok (.putfield 9, 3) := by decide +kernel
theorem dX7_add_27 : decode cX7_add 27 = .ok (.aload_n 1, 1) := by decide +kernel
theorem dX7_add_28 : decode cX7_add 28 = .ok (.ifnonnull 13, 3) := by decide +kernel
theorem dX7_add_31 : decode cX7_add 31 = .ok (.new 70, 3) := by decide +kernel
theorem dX7_add_34 : decode cX7_add 34 = .ok (.dup, 1) := by decide +kernel
theorem dX7_add_35 : decode cX7_add 35 = .ok (.ldc 72, 2) := by decide +kernel
theorem dX7_add_37 : decode cX7_add 37 = .ok (.invokespecial 74, 3) := by decide +kernel
theorem dX7_add_40 : decode cX7_add 40 = .ok (.athrow, 1) := by decide +kernel
theorem dX7_add_41 : decode cX7_add 41 = .ok (.aload_n 0, 1) := by decide +kernel
theorem dX7_add_42 : decode cX7_add 42 = .ok (.getfield 13, 3) := by decide +kernel
theorem dX7_add_45 : decode cX7_add 45 = .ok (.ifCond .ne 14, 3) := by decide +kernel
theorem dX7_add_48 : decode cX7_add 48 = .ok (.aload_n 0, 1) := by decide +kernel
theorem dX7_add_49 : decode cX7_add 49 = .ok (.getfield 27, 3) := by decide +kernel
theorem dX7_add_52 : decode cX7_add 52 = .ok (.aload_n 1, 1) := by decide +kernel
theorem dX7_add_53 : decode cX7_add 53 = .ok (.invokevirtual 77, 3) := by decide +kernel
theorem dX7_add_56 : decode cX7_add 56 = .ok (.ifCond .ne 13, 3) := by decide +kernel
theorem dX7_add_59 : decode cX7_add 59 = .ok (.new 81, 3) := by decide +kernel
theorem dX7_add_62 : decode cX7_add 62 = .ok (.dup, 1) := by decide +kernel
theorem dX7_add_63 : decode cX7_add 63 = .ok (.ldc 83, 2) := by decide +kernel
theorem dX7_add_65 : decode cX7_add 65 = .ok (.invokespecial 85, 3) := by decide +kernel
theorem dX7_add_68 : decode cX7_add 68 = .ok (.athrow, 1) := by decide +kernel
theorem dX7_add_69 : decode cX7_add 69 = .ok (.aload_n 0, 1) := by decide +kernel
theorem dX7_add_70 : decode cX7_add 70 = .ok (.getfield 27, 3) := by decide +kernel
theorem dX7_add_73 : decode cX7_add 73 = .ok (.aload_n 1, 1) := by decide +kernel
theorem dX7_add_74 : decode cX7_add 74 = .ok (.invokevirtual 86, 3) := by decide +kernel
theorem dX7_add_77 : decode cX7_add 77 = .ok (.ireturn, 1) := by decide +kernel
theorem dX7_position_0 : decode cX7_position 0 = .ok (.aload_n 0, 1) := by decide +kernel
theorem dX7_position_1 : decode cX7_position 1 = .ok (.getfield 9, 3) := by decide +kernel
theorem dX7_position_4 : decode cX7_position 4 = .ok (.ireturn, 1) := by decide +kernel
theorem dX7_close_0 : decode cX7_close 0 = .ok (.aload_n 0, 1) := by decide +kernel
theorem dX7_close_1 : decode cX7_close 1 = .ok (.getfield 13, 3) := by decide +kernel
theorem dX7_close_4 : decode cX7_close 4 = .ok (.ifCond .eq 13, 3) := by decide +kernel
theorem dX7_close_7 : decode cX7_close 7 = .ok (.new 81, 3) := by decide +kernel
theorem dX7_close_10 : decode cX7_close 10 = .ok (.dup, 1) := by decide +kernel
theorem dX7_close_11 : decode cX7_close 11 = .ok (.ldc 90, 2) := by decide +kernel
theorem dX7_close_13 : decode cX7_close 13 = .ok (.invokespecial 85, 3) := by decide +kernel
theorem dX7_close_16 : decode cX7_close 16 = .ok (.athrow, 1) := by decide +kernel
theorem dX7_close_17 : decode cX7_close 17 = .ok (.aload_n 0, 1) := by decide +kernel
theorem dX7_close_18 : decode cX7_close 18 = .ok (.getfield 27, 3) := by decide +kernel
theorem dX7_close_21 : decode cX7_close 21 = .ok (.invokevirtual 92, 3) := by decide +kernel
theorem dX7_close_24 : decode cX7_close 24 = .ok (.ifCond .ne 13, 3) := by decide +kernel
theorem dX7_close_27 : decode cX7_close 27 = .ok (.new 70, 3) := by decide +kernel
theorem dX7_close_30 : decode cX7_close 30 = .ok (.dup, 1) := by decide +kernel
theorem dX7_close_31 : decode cX7_close 31 = .ok (.ldc 96, 2) := by decide +kernel
theorem dX7_close_33 : decode cX7_close 33 = .ok (.invokespecial 74, 3) := by decide +kernel
theorem dX7_close_36 : decode cX7_close 36 = .ok (.athrow, 1) := by decide +kernel
theorem dX7_close_37 : decode cX7_close 37 = .ok (.aload_n 0, 1) := by decide +kernel
theorem dX7_close_38 : decode cX7_close 38 = .ok (.iconst 1, 1) := by decide +kernel
theorem dX7_close_39 : decode cX7_close 39 = .ok (.putfield 13, 3) := by decide +kernel
theorem dX7_close_42 : decode cX7_close 42 = .ok (.aload_n 0, 1) := by decide +kernel
theorem dX7_close_43 : decode cX7_close 43 = .ok (.getfield 36, 3) := by decide +kernel
theorem dX7_close_46 : decode cX7_close 46 = .ok (.invokevirtual 98, 3) := by decide +kernel
theorem dX7_close_49 : decode cX7_close 49 = .ok (.aload_n 0, 1) := by decide +kernel
theorem dX7_close_50 : decode cX7_close 50 = .ok (.getfield 36, 3) := by decide +kernel
theorem dX7_close_53 : decode cX7_close 53 = .ok (.invokevirtual 101, 3) := by decide +kernel
theorem dX7_close_56 : decode cX7_close 56 = .ok (.aload_n 0, 1) := by decide +kernel
theorem dX7_close_57 : decode cX7_close 57 = .ok (.getfield 54, 3) := by decide +kernel
theorem dX7_close_60 : decode cX7_close 60 = .ok (.invokevirtual 104, 3) := by decide +kernel
theorem dX7_close_63 : decode cX7_close 63 = .ok (.aload_n 0, 1) := by decide +kernel
theorem dX7_close_64 : decode cX7_close 64 = .ok (.getfield 27, 3) := by decide +kernel
theorem dX7_close_67 : decode cX7_close 67 = .ok (.invokevirtual 107, 3) := by decide +kernel
theorem dX7_close_70 : decode cX7_close 70 = .ok (.ireturn, 1) := by decide +kernel
theorem dX7_clear_0 : decode cX7_clear 0 = .ok (.aload_n 0, 1) := by decide +kernel
theorem dX7_clear_1 : decode cX7_clear 1 = .ok (.iconst 0, 1) := by decide +kernel
theorem dX7_clear_2 : decode cX7_clear 2 = .ok (.putfield 13, 3) := by decide +kernel
theorem dX7_clear_5 : decode cX7_clear 5 = .ok (.aload_n 0, 1) := by decide +kernel
theorem dX7_clear_6 : decode cX7_clear 6 = .ok (.getfield 27, 3) := by decide +kernel
theorem dX7_clear_9 : decode cX7_clear 9 = .ok (.invokevirtual 110, 3) := by decide +kernel
theorem dX7_clear_12 : decode cX7_clear 12 = .ok (.return_, 1) := by decide +kernel
theorem dX7_rows_0 : decode cX7_rows 0 = .ok (.aload_n 0, 1) := by decide +kernel
theorem dX7_rows_1 : decode cX7_rows 1 = .ok (.getfield 13, 3) := by decide +kernel
theorem dX7_rows_4 : decode cX7_rows 4 = .ok (.ifCond .eq 12, 3) := by decide +kernel
theorem dX7_rows_7 : decode cX7_rows 7 = .ok (.iload_n 1, 1) := by decide +kernel
theorem dX7_rows_8 : decode cX7_rows 8 = .ok (.ifCond .lt 8, 3) := by decide +kernel
theorem dX7_rows_11 : decode cX7_rows 11 = .ok (.iload_n 1, 1) := by decide +kernel
theorem dX7_rows_12 : decode cX7_rows 12 = .ok (.iconst 4, 1) := by decide +kernel
theorem dX7_rows_13 : decode cX7_rows 13 = .ok (.if_icmp .le 5, 3) := by decide +kernel
theorem dX7_rows_16 : decode cX7_rows 16 = .ok (.iconst (-1), 1) := by decide +kernel
theorem dX7_rows_17 : decode cX7_rows 17 = .ok (.ireturn, 1) := by decide +kernel
theorem dX7_rows_18 : decode cX7_rows 18 = .ok (.aload_n 0, 1) := by decide +kernel
theorem dX7_rows_19 : decode cX7_rows 19 = .ok (.getfield 36, 3) := by decide +kernel
theorem dX7_rows_22 : decode cX7_rows 22 = .ok (.iload_n 1, 1) := by decide +kernel
theorem dX7_rows_23 : decode cX7_rows 23 = .ok (.aload_n 0, 1) := by decide +kernel
theorem dX7_rows_24 : decode cX7_rows 24 = .ok (.getfield 27, 3) := by decide +kernel
theorem dX7_rows_27 : decode cX7_rows 27 = .ok (.getfield 113, 3) := by decide +kernel
theorem dX7_rows_30 : decode cX7_rows 30 = .ok (.invokestatic 42, 3) := by decide +kernel
theorem dX7_rows_33 : decode cX7_rows 33 = .ok (.invokevirtual 116, 3) := by decide +kernel
theorem dX7_rows_36 : decode cX7_rows 36 = .ok (.aload_n 0, 1) := by decide +kernel
theorem dX7_rows_37 : decode cX7_rows 37 = .ok (.getfield 27, 3) := by decide +kernel
theorem dX7_rows_40 : decode cX7_rows 40 = .ok (.iload_n 1, 1) := by decide +kernel
theorem dX7_rows_41 : decode cX7_rows 41 = .ok (.putfield 113, 3) := by decide +kernel
theorem dX7_rows_44 : decode cX7_rows 44 = .ok (.aload_n 0, 1) := by decide +kernel
theorem dX7_rows_45 : decode cX7_rows 45 = .ok (.getfield 36, 3) := by decide +kernel
theorem dX7_rows_48 : decode cX7_rows 48 = .ok (.invokevirtual 101, 3) := by decide +kernel
theorem dX7_rows_51 : decode cX7_rows 51 = .ok (.aload_n 0, 1) := by decide +kernel
theorem dX7_rows_52 : decode cX7_rows 52 = .ok (.getfield 54, 3) := by decide +kernel
theorem dX7_rows_55 : decode cX7_rows 55 = .ok (.invokevirtual 104, 3) := by decide +kernel
theorem dX7_rows_58 : decode cX7_rows 58 = .ok (.aload_n 0, 1) := by decide +kernel
theorem dX7_rows_59 : decode cX7_rows 59 = .ok (.getfield 27, 3) := by decide +kernel
theorem dX7_rows_62 : decode cX7_rows 62 = .ok (.invokevirtual 107, 3) := by decide +kernel
theorem dX7_rows_65 : decode cX7_rows 65 = .ok (.ireturn, 1) := by decide +kernel
theorem dX7_set_0 : decode cX7_set 0 = .ok (.aload_n 0, 1) := by decide +kernel
theorem dX7_set_1 : decode cX7_set 1 = .ok (.iload_n 1, 1) := by decide +kernel
theorem dX7_set_2 : decode cX7_set 2 = .ok (.iload_n 2, 1) := by decide +kernel
theorem dX7_set_3 : decode cX7_set 3 = .ok (.invokevirtual 120, 3) := by decide +kernel
theorem dX7_set_6 : decode cX7_set 6 = .ok (.ifCond .eq 30, 3) := by decide +kernel
theorem dX7_set_9 : decode cX7_set 9 = .ok (.aload_n 0, 1) := by decide +kernel
theorem dX7_set_10 : decode cX7_set 10 = .ok (.getfield 27, 3) := by decide +kernel
theorem dX7_set_13 : decode cX7_set 13 = .ok (.iload_n 1, 1) := by decide +kernel
theorem dX7_set_14 : decode cX7_set 14 = .ok (.invokevirtual 124, 3) := by decide +kernel
theorem dX7_set_17 : decode cX7_set 17 = .ok (.ifCond .eq 19, 3) := by decide +kernel
theorem dX7_set_20 : decode cX7_set 20 = .ok (.lload_n 3, 1) := by decide +kernel
theorem dX7_set_21 : decode cX7_set 21 = .ok (.ldc2_w 128, 3) := by decide +kernel
theorem dX7_set_24 : decode cX7_set 24 = .ok (.lcmp, 1) := by decide +kernel
theorem dX7_set_25 : decode cX7_set 25 = .ok (.ifCond .lt 11, 3) := by decide +kernel
theorem dX7_set_28 : decode cX7_set 28 = .ok (.lload_n 3, 1) := by decide +kernel
theorem dX7_set_29 : decode cX7_set 29 = .ok (.ldc2_w 130, 3) := by decide +kernel
theorem dX7_set_32 : decode cX7_set 32 = .ok (.lcmp, 1) := by decide +kernel
theorem dX7_set_33 : decode cX7_set 33 = .ok (.ifCond .le 5, 3) := by decide +kernel
theorem dX7_set_36 : decode cX7_set 36 = .ok (.iconst (-1), 1) := by decide +kernel
theorem dX7_set_37 : decode cX7_set 37 = .ok (.ireturn, 1) := by decide +kernel
theorem dX7_set_38 : decode cX7_set 38 = .ok (.aload_n 0, 1) := by decide +kernel
theorem dX7_set_39 : decode cX7_set 39 = .ok (.getfield 36, 3) := by decide +kernel
theorem dX7_set_42 : decode cX7_set 42 = .ok (.iload_n 1, 1) := by decide +kernel
theorem dX7_set_43 : decode cX7_set 43 = .ok (.iload_n 2, 1) := by decide +kernel
theorem dX7_set_44 : decode cX7_set 44 = .ok (.invokestatic 132, 3) := by decide +kernel
theorem dX7_set_47 : decode cX7_set 47 = .ok (.lload_n 3, 1) := by decide +kernel
theorem dX7_set_48 : decode cX7_set 48 = .ok (.invokevirtual 135, 3) := by decide +kernel
theorem dX7_set_51 : decode cX7_set 51 = .ok (.istore 5, 2) := by decide +kernel
theorem dX7_set_53 : decode cX7_set 53 = .ok (.aload_n 0, 1) := by decide +kernel
theorem dX7_set_54 : decode cX7_set 54 = .ok (.getfield 54, 3) := by decide +kernel
theorem dX7_set_57 : decode cX7_set 57 = .ok (.invokevirtual 104, 3) := by decide +kernel
theorem dX7_set_60 : decode cX7_set 60 = .ok (.iload 5, 2) := by decide +kernel
theorem dX7_set_62 : decode cX7_set 62 = .ok (.ireturn, 1) := by decide +kernel
theorem dX7_get_0 : decode cX7_get 0 = .ok (.aload_n 0, 1) := by decide +kernel
theorem dX7_get_1 : decode cX7_get 1 = .ok (.iload_n 1, 1) := by decide +kernel
theorem dX7_get_2 : decode cX7_get 2 = .ok (.iload_n 2, 1) := by decide +kernel
theorem dX7_get_3 : decode cX7_get 3 = .ok (.invokevirtual 120, 3) := by decide +kernel
theorem dX7_get_6 : decode cX7_get 6 = .ok (.ifCond .eq 14, 3) := by decide +kernel
theorem dX7_get_9 : decode cX7_get 9 = .ok (.aload_n 0, 1) := by decide +kernel
theorem dX7_get_10 : decode cX7_get 10 = .ok (.getfield 27, 3) := by decide +kernel
theorem dX7_get_13 : decode cX7_get 13 = .ok (.iload_n 1, 1) := by decide +kernel
theorem dX7_get_14 : decode cX7_get 14 = .ok (.invokevirtual 139, 3) := by decide +kernel
theorem dX7_get_17 : decode cX7_get 17 = .ok (.ifCond .ne 5, 3) := by decide +kernel
theorem dX7_get_20 : decode cX7_get 20 = .ok (.lconst 0, 1) := by decide +kernel
theorem dX7_get_21 : decode cX7_get 21 = .ok (.lreturn, 1) := by decide +kernel
theorem dX7_get_22 : decode cX7_get 22 = .ok (.aload_n 0, 1) := by decide +kernel
theorem dX7_get_23 : decode cX7_get 23 = .ok (.getfield 36, 3) := by decide +kernel
theorem dX7_get_26 : decode cX7_get 26 = .ok (.iload_n 1, 1) := by decide +kernel
theorem dX7_get_27 : decode cX7_get 27 = .ok (.iload_n 2, 1) := by decide +kernel
theorem dX7_get_28 : decode cX7_get 28 = .ok (.invokevirtual 142, 3) := by decide +kernel
theorem dX7_get_31 : decode cX7_get 31 = .ok (.lstore_n 3, 1) := by decide +kernel
theorem dX7_get_32 : decode cX7_get 32 = .ok (.lload_n 3, 1) := by decide +kernel
theorem dX7_get_33 : decode cX7_get 33 = .ok (.invokestatic 146, 3) := by decide +kernel
theorem dX7_get_36 : decode cX7_get 36 = .ok (.ifCond .eq 7, 3) := by decide +kernel
theorem dX7_get_39 : decode cX7_get 39 = .ok (.lconst 0, 1) := by decide +kernel
theorem dX7_get_40 : decode cX7_get 40 = .ok (.goto 4, 3) := by decide +kernel
theorem dX7_get_43 : decode cX7_get 43 = .ok (.lload_n 3, 1) := by decide +kernel
theorem dX7_get_44 : decode cX7_get 44 = .ok (.lreturn, 1) := by decide +kernel
theorem dX7_fault_0 : decode cX7_fault 0 = .ok (.aload_n 0, 1) := by decide +kernel
theorem dX7_fault_1 : decode cX7_fault 1 = .ok (.iload_n 1, 1) := by decide +kernel
theorem dX7_fault_2 : decode cX7_fault 2 = .ok (.iload_n 2, 1) := by decide +kernel
theorem dX7_fault_3 : decode cX7_fault 3 = .ok (.invokevirtual 120, 3) := by decide +kernel
theorem dX7_fault_6 : decode cX7_fault 6 = .ok (.ifCond .eq 14, 3) := by decide +kernel
theorem dX7_fault_9 : decode cX7_fault 9 = .ok (.aload_n 0, 1) := by decide +kernel
theorem dX7_fault_10 : decode cX7_fault 10 = .ok (.getfield 27, 3) := by decide +kernel
theorem dX7_fault_13 : decode cX7_fault 13 = .ok (.iload_n 1, 1) := by decide +kernel
theorem dX7_fault_14 : decode cX7_fault 14 = .ok (.invokevirtual 149, 3) := by decide +kernel
theorem dX7_fault_17 : decode cX7_fault 17 = .ok (.ifCond .eq 5, 3) := by decide +kernel
theorem dX7_fault_20 : decode cX7_fault 20 = .ok (.iconst (-1), 1) := by decide +kernel
theorem dX7_fault_21 : decode cX7_fault 21 = .ok (.ireturn, 1) := by decide +kernel
theorem dX7_fault_22 : decode cX7_fault 22 = .ok (.aload_n 0, 1) := by decide +kernel
theorem dX7_fault_23 : decode cX7_fault 23 = .ok (.getfield 27, 3) := by decide +kernel
theorem dX7_fault_26 : decode cX7_fault 26 = .ok (.iload_n 1, 1) := by decide +kernel
theorem dX7_fault_27 : decode cX7_fault 27 = .ok (.invokevirtual 152, 3) := by decide +kernel
theorem dX7_fault_30 : decode cX7_fault 30 = .ok (.ifCond .eq 21, 3) := by decide +kernel
theorem dX7_fault_33 : decode cX7_fault 33 = .ok (.aload_n 0, 1) := by decide +kernel
theorem dX7_fault_34 : decode cX7_fault 34 = .ok (.getfield 36, 3) := by decide +kernel
theorem dX7_fault_37 : decode cX7_fault 37 = .ok (.iload_n 1, 1) := by decide +kernel
theorem dX7_fault_38 : decode cX7_fault 38 = .ok (.iload_n 2, 1) := by decide +kernel
theorem dX7_fault_39 : decode cX7_fault 39 = .ok (.invokevirtual 155, 3) := by decide +kernel
theorem dX7_fault_42 : decode cX7_fault 42 = .ok (.ifCond .eq 7, 3) := by decide +kernel
theorem dX7_fault_45 : decode cX7_fault 45 = .ok (.iconst 1, 1) := by decide +kernel
theorem dX7_fault_46 : decode cX7_fault 46 = .ok (.goto 4, 3) := by decide +kernel
theorem dX7_fault_49 : decode cX7_fault 49 = .ok (.iconst 0, 1) := by decide +kernel
theorem dX7_fault_50 : decode cX7_fault 50 = .ok (.ireturn, 1) := by decide +kernel
theorem dX7_fault_51 : decode cX7_fault 51 = .ok (.aload_n 0, 1) := by decide +kernel
theorem dX7_fault_52 : decode cX7_fault 52 = .ok (.getfield 36, 3) := by decide +kernel
theorem dX7_fault_55 : decode cX7_fault 55 = .ok (.iload_n 1, 1) := by decide +kernel
theorem dX7_fault_56 : decode cX7_fault 56 = .ok (.iload_n 2, 1) := by decide +kernel
theorem dX7_fault_57 : decode cX7_fault 57 = .ok (.invokevirtual 142, 3) := by decide +kernel
theorem dX7_fault_60 : decode cX7_fault 60 = .ok (.lstore_n 3, 1) := by decide +kernel
theorem dX7_fault_61 : decode cX7_fault 61 = .ok (.lload_n 3, 1) := by decide +kernel
theorem dX7_fault_62 : decode cX7_fault 62 = .ok (.invokestatic 146, 3) := by decide +kernel
theorem dX7_fault_65 : decode cX7_fault 65 = .ok (.ifCond .eq 12, 3) := by decide +kernel
theorem dX7_fault_68 : decode cX7_fault 68 = .ok (.lload_n 3, 1) := by decide +kernel
theorem dX7_fault_69 : decode cX7_fault 69 = .ok (.ldc2_w 158, 3) := by decide +kernel
theorem dX7_fault_72 : decode cX7_fault 72 = .ok (.lsub, 1) := by decide +kernel
theorem dX7_fault_73 : decode cX7_fault 73 = .ok (.l2i, 1) := by decide +kernel
theorem dX7_fault_74 : decode cX7_fault 74 = .ok (.goto 4, 3) := by decide +kernel
theorem dX7_fault_77 : decode cX7_fault 77 = .ok (.iconst 0, 1) := by decide +kernel
theorem dX7_fault_78 : decode cX7_fault 78 = .ok (.ireturn, 1) := by decide +kernel
theorem dX7_message_0 : decode cX7_message 0 = .ok (.iconst 0, 1) := by decide +kernel
theorem dX7_message_1 : decode cX7_message 1 = .ok (.istore_n 2, 1) := by decide +kernel
theorem dX7_message_2 : decode cX7_message 2 = .ok (.aload_n 0, 1) := by decide +kernel
theorem dX7_message_3 : decode cX7_message 3 = .ok (.getfield 13, 3) := by decide +kernel
theorem dX7_message_6 : decode cX7_message 6 = .ok (.ifCond .eq 73, 3) := by decide +kernel
theorem dX7_message_9 : decode cX7_message 9 = .ok (.iconst 0, 1) := by decide +kernel
theorem dX7_message_10 : decode cX7_message 10 = .ok (.istore_n 3, 1) := by decide +kernel
theorem dX7_message_11 : decode cX7_message 11 = .ok (.iload_n 3, 1) := by decide +kernel
theorem dX7_message_12 : decode cX7_message 12 = .ok (.aload_n 0, 1) := by decide +kernel
theorem dX7_message_13 : decode cX7_message 13 = .ok (.getfield 27, 3) := by decide +kernel
theorem dX7_message_16 : decode cX7_message 16 = .ok (.getfield 160, 3) := by decide +kernel
theorem dX7_message_19 : decode cX7_message 19 = .ok (.if_icmp .ge 60, 3) := by decide +kernel
theorem dX7_message_22 : decode cX7_message 22 = .ok (.iconst 0, 1) := by decide +kernel
theorem dX7_message_23 : decode cX7_message 23 = .ok (.istore 4, 2) := by decide +kernel
theorem dX7_message_25 : decode cX7_message 25 = .ok (.iload 4, 2) := by decide +kernel
theorem dX7_message_27 : decode cX7_message 27 = .ok (.aload_n 0, 1) := by decide +kernel
theorem dX7_message_28 : decode cX7_message 28 = .ok (.getfield 27, 3) := by decide +kernel
theorem dX7_message_31 : decode cX7_message 31 = .ok (.iload_n 3, 1) := by decide +kernel
theorem dX7_message_32 : decode cX7_message 32 = .ok (.invokevirtual 163, 3) := by decide +kernel
theorem dX7_message_35 : decode cX7_message 35 = .ok (.if_icmp .ge 38, 3) := by decide +kernel
theorem dX7_message_38 : decode cX7_message 38 = .ok (.aload_n 0, 1) := by decide +kernel
theorem dX7_message_39 : decode cX7_message 39 = .ok (.getfield 36, 3) := by decide +kernel
theorem dX7_message_42 : decode cX7_message 42 = .ok (.iload_n 3, 1) := by decide +kernel
theorem dX7_message_43 : decode cX7_message 43 = .ok (.iload 4, 2) := by decide +kernel
theorem dX7_message_45 : decode cX7_message 45 = .ok (.invokevirtual 155, 3) := by decide +kernel
theorem dX7_message_48 : decode cX7_message 48 = .ok (.ifCond .eq 19, 3) := by decide +kernel
theorem dX7_message_51 : decode cX7_message 51 = .ok (.iload_n 2, 1) := by decide +kernel
theorem dX7_message_52 : decode cX7_message 52 = .ok (.iload_n 1, 1) := by decide +kernel
theorem dX7_message_53 : decode cX7_message 53 = .ok (.if_icmp .ne 11, 3) := by decide +kernel
theorem dX7_message_56 : decode cX7_message 56 = .ok (.bipush 8, 2) := by decide +kernel
theorem dX7_message_58 : decode cX7_message 58 = .ok (.iload_n 3, 1) := by decide +kernel
theorem dX7_message_59 : decode cX7_message 59 = .ok (.imul, 1) := by decide +kernel
theorem dX7_message_60 : decode cX7_message 60 = .ok (.iload 4, 2) := by decide +kernel
theorem dX7_message_62 : decode cX7_message 62 = .ok (.iadd, 1) := by decide +kernel
theorem dX7_message_63 : decode cX7_message 63 = .ok (.ireturn, 1) := by decide +kernel
theorem dX7_message_64 : decode cX7_message 64 = .ok (.iinc 2 1, 3) := by decide +kernel
theorem dX7_message_67 : decode cX7_message 67 = .ok (.iinc 4 1, 3) := by decide +kernel
theorem dX7_message_70 : decode cX7_message 70 = .ok (.goto (-45), 3) := by decide +kernel
theorem dX7_message_73 : decode cX7_message 73 = .ok (.iinc 3 1, 3) := by decide +kernel
theorem dX7_message_76 : decode cX7_message 76 = .ok (.goto (-65), 3) := by decide +kernel
theorem dX7_message_79 : decode cX7_message 79 = .ok (.iload_n 1, 1) := by decide +kernel
theorem dX7_message_80 : decode cX7_message 80 = .ok (.iconst (-1), 1) := by decide +kernel
theorem dX7_message_81 : decode cX7_message 81 = .ok (.if_icmp .ne 7, 3) := by decide +kernel
theorem dX7_message_84 : decode cX7_message 84 = .ok (.iload_n 2, 1) := by decide +kernel
theorem dX7_message_85 : decode cX7_message 85 = .ok (.goto 4, 3) := by decide +kernel
theorem dX7_message_88 : decode cX7_message 88 = .ok (.iconst (-1), 1) := by decide +kernel
theorem dX7_message_89 : decode cX7_message 89 = .ok (.ireturn, 1) := by decide +kernel
theorem dX7_place_0 : decode cX7_place 0 = .ok (.aload_n 0, 1) := by decide +kernel
theorem dX7_place_1 : decode cX7_place 1 = .ok (.iload_n 1, 1) := by decide +kernel
theorem dX7_place_2 : decode cX7_place 2 = .ok (.iload_n 2, 1) := by decide +kernel
theorem dX7_place_3 : decode cX7_place 3 = .ok (.invokevirtual 120, 3) := by decide +kernel
theorem dX7_place_6 : decode cX7_place 6 = .ok (.ifCond .eq 15, 3) := by decide +kernel
theorem dX7_place_9 : decode cX7_place 9 = .ok (.aload_n 0, 1) := by decide +kernel
theorem dX7_place_10 : decode cX7_place 10 = .ok (.getfield 54, 3) := by decide +kernel
theorem dX7_place_13 : decode cX7_place 13 = .ok (.iload_n 1, 1) := by decide +kernel
theorem dX7_place_14 : decode cX7_place 14 = .ok (.iload_n 2, 1) := by decide +kernel
theorem dX7_place_15 : decode cX7_place 15 = .ok (.invokevirtual 167, 3) := by decide +kernel
theorem dX7_place_18 : decode cX7_place 18 = .ok (.goto 4, 3) := by decide +kernel
theorem dX7_place_21 : decode cX7_place 21 = .ok (.iconst (-1), 1) := by decide +kernel
theorem dX7_place_22 : decode cX7_place 22 = .ok (.ireturn, 1) := by decide +kernel
theorem dX7_pages_0 : decode cX7_pages 0 = .ok (.aload_n 0, 1) := by decide +kernel
theorem dX7_pages_1 : decode cX7_pages 1 = .ok (.getfield 13, 3) := by decide +kernel
theorem dX7_pages_4 : decode cX7_pages 4 = .ok (.ifCond .eq 13, 3) := by decide +kernel
theorem dX7_pages_7 : decode cX7_pages 7 = .ok (.aload_n 0, 1) := by decide +kernel
theorem dX7_pages_8 : decode cX7_pages 8 = .ok (.getfield 54, 3) := by decide +kernel
theorem dX7_pages_11 : decode cX7_pages 11 = .ok (.invokevirtual 170, 3) := by decide +kernel
theorem dX7_pages_14 : decode cX7_pages 14 = .ok (.goto 4, 3) := by decide +kernel
theorem dX7_pages_17 : decode cX7_pages 17 = .ok (.iconst 0, 1) := by decide +kernel
theorem dX7_pages_18 : decode cX7_pages 18 = .ok (.ireturn, 1) := by decide +kernel
theorem dX7_line_0 : decode cX7_line 0 = .ok (.aload_n 0, 1) := by decide +kernel
theorem dX7_line_1 : decode cX7_line 1 = .ok (.getfield 13, 3) := by decide +kernel
theorem dX7_line_4 : decode cX7_line 4 = .ok (.ifCond .eq 15, 3) := by decide +kernel
theorem dX7_line_7 : decode cX7_line 7 = .ok (.aload_n 0, 1) := by decide +kernel
theorem dX7_line_8 : decode cX7_line 8 = .ok (.getfield 54, 3) := by decide +kernel
theorem dX7_line_11 : decode cX7_line 11 = .ok (.iload_n 1, 1) := by decide +kernel
theorem dX7_line_12 : decode cX7_line 12 = .ok (.iload_n 2, 1) := by decide +kernel
theorem dX7_line_13 : decode cX7_line 13 = .ok (.invokevirtual 173, 3) := by decide +kernel
theorem dX7_line_16 : decode cX7_line 16 = .ok (.goto 4, 3) := by decide +kernel
theorem dX7_line_19 : decode cX7_line 19 = .ok (.iconst (-1), 1) := by decide +kernel
theorem dX7_line_20 : decode cX7_line 20 = .ok (.ireturn, 1) := by decide +kernel
theorem dX7_count_0 : decode cX7_count 0 = .ok (.iload_n 1, 1) := by decide +kernel
theorem dX7_count_1 : decode cX7_count 1 = .ok (.tableswitch 91 0 4 #[35, 43, 51, 59, 72], 35) := by decide +kernel
theorem dX7_count_36 : decode cX7_count 36 = .ok (.aload_n 0, 1) := by decide +kernel
theorem dX7_count_37 : decode cX7_count 37 = .ok (.getfield 27, 3) := by decide +kernel
theorem dX7_count_40 : decode cX7_count 40 = .ok (.getfield 160, 3) := by decide +kernel
theorem dX7_count_43 : decode cX7_count 43 = .ok (.ireturn, 1) := by decide +kernel
theorem dX7_count_44 : decode cX7_count 44 = .ok (.aload_n 0, 1) := by decide +kernel
theorem dX7_count_45 : decode cX7_count 45 = .ok (.getfield 27, 3) := by decide +kernel
theorem dX7_count_48 : decode cX7_count 48 = .ok (.getfield 113, 3) := by decide +kernel
theorem dX7_count_51 : decode cX7_count 51 = .ok (.ireturn, 1) := by decide +kernel
theorem dX7_count_52 : decode cX7_count 52 = .ok (.aload_n 0, 1) := by decide +kernel
theorem dX7_count_53 : decode cX7_count 53 = .ok (.getfield 54, 3) := by decide +kernel
theorem dX7_count_56 : decode cX7_count 56 = .ok (.getfield 176, 3) := by decide +kernel
theorem dX7_count_59 : decode cX7_count 59 = .ok (.ireturn, 1) := by decide +kernel
theorem dX7_count_60 : decode cX7_count 60 = .ok (.aload_n 0, 1) := by decide +kernel
theorem dX7_count_61 : decode cX7_count 61 = .ok (.getfield 13, 3) := by decide +kernel
theorem dX7_count_64 : decode cX7_count 64 = .ok (.ifCond .eq 7, 3) := by decide +kernel
theorem dX7_count_67 : decode cX7_count 67 = .ok (.iconst 1, 1) := by decide +kernel
theorem dX7_count_68 : decode cX7_count 68 = .ok (.goto 4, 3) := by decide +kernel
theorem dX7_count_71 : decode cX7_count 71 = .ok (.iconst 0, 1) := by decide +kernel
theorem dX7_count_72 : decode cX7_count 72 = .ok (.ireturn, 1) := by decide +kernel
theorem dX7_count_73 : decode cX7_count 73 = .ok (.aload_n 0, 1) := by decide +kernel
theorem dX7_count_74 : decode cX7_count 74 = .ok (.getfield 13, 3) := by decide +kernel
theorem dX7_count_77 : decode cX7_count 77 = .ok (.ifCond .eq 13, 3) := by decide +kernel
theorem dX7_count_80 : decode cX7_count 80 = .ok (.aload_n 0, 1) := by decide +kernel
theorem dX7_count_81 : decode cX7_count 81 = .ok (.getfield 36, 3) := by decide +kernel
theorem dX7_count_84 : decode cX7_count 84 = .ok (.invokevirtual 179, 3) := by decide +kernel
theorem dX7_count_87 : decode cX7_count 87 = .ok (.goto 4, 3) := by decide +kernel
theorem dX7_count_90 : decode cX7_count 90 = .ok (.iconst 0, 1) := by decide +kernel
theorem dX7_count_91 : decode cX7_count 91 = .ok (.ireturn, 1) := by decide +kernel
theorem dX7_count_92 : decode cX7_count 92 = .ok (.iconst (-1), 1) := by decide +kernel
theorem dX7_count_93 : decode cX7_count 93 = .ok (.ireturn, 1) := by decide +kernel
theorem dX7_isThere_0 : decode cX7_isThere 0 = .ok (.aload_n 0, 1) := by decide +kernel
theorem dX7_isThere_1 : decode cX7_isThere 1 = .ok (.getfield 13, 3) := by decide +kernel
theorem dX7_isThere_4 : decode cX7_isThere 4 = .ok (.ifCond .eq 19, 3) := by decide +kernel
theorem dX7_isThere_7 : decode cX7_isThere 7 = .ok (.aload_n 0, 1) := by decide +kernel
theorem dX7_isThere_8 : decode cX7_isThere 8 = .ok (.getfield 27, 3) := by decide +kernel
theorem dX7_isThere_11 : decode cX7_isThere 11 = .ok (.iload_n 1, 1) := by decide +kernel
theorem dX7_isThere_12 : decode cX7_isThere 12 = .ok (.iload_n 2, 1) := by decide +kernel
theorem dX7_isThere_13 : decode cX7_isThere 13 = .ok (.invokevirtual 182, 3) := by decide +kernel
theorem dX7_isThere_16 : decode cX7_isThere 16 = .ok (.ifCond .eq 7, 3) := by decide +kernel
theorem dX7_isThere_19 : decode cX7_isThere 19 = .ok (.iconst 1, 1) := by decide +kernel
theorem dX7_isThere_20 : decode cX7_isThere 20 = .ok (.goto 4, 3) := by decide +kernel
theorem dX7_isThere_23 : decode cX7_isThere 23 = .ok (.iconst 0, 1) := by decide +kernel
theorem dX7_isThere_24 : decode cX7_isThere 24 = .ok (.ireturn, 1) := by decide +kernel
theorem dX7_cellOf_0 : decode cX7_cellOf 0 = .ok (.iload_n 0, 1) := by decide +kernel
theorem dX7_cellOf_1 : decode cX7_cellOf 1 = .ok (.iconst 4, 1) := by decide +kernel
theorem dX7_cellOf_2 : decode cX7_cellOf 2 = .ok (.imul, 1) := by decide +kernel
theorem dX7_cellOf_3 : decode cX7_cellOf 3 = .ok (.iload_n 1, 1) := by decide +kernel
theorem dX7_cellOf_4 : decode cX7_cellOf 4 = .ok (.iadd, 1) := by decide +kernel
theorem dX7_cellOf_5 : decode cX7_cellOf 5 = .ok (.ireturn, 1) := by decide +kernel
theorem dX7_isFault_0 : decode cX7_isFault 0 = .ok (.lload_n 0, 1) := by decide +kernel
theorem dX7_isFault_1 : decode cX7_isFault 1 = .ok (.ldc2_w 130, 3) := by decide +kernel
theorem dX7_isFault_4 : decode cX7_isFault 4 = .ok (.lcmp, 1) := by decide +kernel
theorem dX7_isFault_5 : decode cX7_isFault 5 = .ok (.ifCond .le 7, 3) := by decide +kernel
theorem dX7_isFault_8 : decode cX7_isFault 8 = .ok (.iconst 1, 1) := by decide +kernel
theorem dX7_isFault_9 : decode cX7_isFault 9 = .ok (.goto 4, 3) := by decide +kernel
theorem dX7_isFault_12 : decode cX7_isFault 12 = .ok (.iconst 0, 1) := by decide +kernel
theorem dX7_isFault_13 : decode cX7_isFault 13 = .ok (.ireturn, 1) := by decide +kernel
theorem dX7_isLetter_0 : decode cX7_isLetter 0 = .ok (.iload_n 0, 1) := by decide +kernel
theorem dX7_isLetter_1 : decode cX7_isLetter 1 = .ok (.bipush 97, 2) := by decide +kernel
theorem dX7_isLetter_3 : decode cX7_isLetter 3 = .ok (.if_icmp .lt 13, 3) := by decide +kernel
theorem dX7_isLetter_6 : decode cX7_isLetter 6 = .ok (.iload_n 0, 1) := by decide +kernel
theorem dX7_isLetter_7 : decode cX7_isLetter 7 = .ok (.bipush 122, 2) := by decide +kernel
theorem dX7_isLetter_9 : decode cX7_isLetter 9 = .ok (.if_icmp .gt 7, 3) := by decide +kernel
theorem dX7_isLetter_12 : decode cX7_isLetter 12 = .ok (.iconst 1, 1) := by decide +kernel
theorem dX7_isLetter_13 : decode cX7_isLetter 13 = .ok (.goto 4, 3) := by decide +kernel
theorem dX7_isLetter_16 : decode cX7_isLetter 16 = .ok (.iconst 0, 1) := by decide +kernel
theorem dX7_isLetter_17 : decode cX7_isLetter 17 = .ok (.ireturn, 1) := by decide +kernel
theorem dX7_isDigit_0 : decode cX7_isDigit 0 = .ok (.iload_n 0, 1) := by decide +kernel
theorem dX7_isDigit_1 : decode cX7_isDigit 1 = .ok (.bipush 48, 2) := by decide +kernel
theorem dX7_isDigit_3 : decode cX7_isDigit 3 = .ok (.if_icmp .lt 13, 3) := by decide +kernel
theorem dX7_isDigit_6 : decode cX7_isDigit 6 = .ok (.iload_n 0, 1) := by decide +kernel
theorem dX7_isDigit_7 : decode cX7_isDigit 7 = .ok (.bipush 57, 2) := by decide +kernel
theorem dX7_isDigit_9 : decode cX7_isDigit 9 = .ok (.if_icmp .gt 7, 3) := by decide +kernel
theorem dX7_isDigit_12 : decode cX7_isDigit 12 = .ok (.iconst 1, 1) := by decide +kernel
theorem dX7_isDigit_13 : decode cX7_isDigit 13 = .ok (.goto 4, 3) := by decide +kernel
theorem dX7_isDigit_16 : decode cX7_isDigit 16 = .ok (.iconst 0, 1) := by decide +kernel
theorem dX7_isDigit_17 : decode cX7_isDigit 17 = .ok (.ireturn, 1) := by decide +kernel
