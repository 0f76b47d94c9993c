theorem dJ5_init_d00df_0 : decode cJ5_init_d00df 0 = .ok (.aload_n 0, 1) := by decide +kernel
theorem dJ5_init_d00df_1 : decode cJ5_init_d00df 1 = .ok (.invokespecial 3, 3) := by decide +kernel
theorem dJ5_init_d00df_4 : decode cJ5_init_d00df 4 = .ok (.getstatic 18, 3) := by decide +kernel
theorem dJ5_init_d00df_7 : decode cJ5_init_d00df 7 = .ok (.ifCond .eq 18, 3) := by decide +kernel
theorem dJ5_init_d00df_10 : decode cJ5_init_d00df 10 = .ok (.aload_n 0, 1) := by decide +kernel
theorem dJ5_init_d00df_11 : decode cJ5_init_d00df 11 = .ok (.iload_n 1, 1) := by decide +kernel
theorem dJ5_init_d00df_12 : decode cJ5_init_d00df 12 = .ok (.newarray .byte, 2) := by decide +kernel
theorem dJ5_init_d00df_14 : decode cJ5_init_d00df 14 = .ok (.putfield 15, 3) := by decide +kernel
theorem dJ5_init_d00df_17 : decode cJ5_init_d00df 17 = .ok (.aload_n 0, 1) := by decide +kernel
theorem dJ5_init_d00df_18 : decode cJ5_init_d00df 18 = .ok (.iconst 0, 1) := by decide +kernel
theorem dJ5_init_d00df_19 : decode cJ5_init_d00df 19 = .ok (.putfield 22, 3) := by decide +kernel
theorem dJ5_init_d00df_22 : decode cJ5_init_d00df 22 = .ok (.goto 16, 3) := by decide +kernel
theorem dJ5_init_d00df_25 : decode cJ5_init_d00df 25 = .ok (.aload_n 0, 1) := by decide +kernel
theorem dJ5_init_d00df_26 : decode cJ5_init_d00df 26 = .ok (.iload_n 1, 1) := by decide +kernel
theorem dJ5_init_d00df_27 : decode cJ5_init_d00df 27 = .ok (.invokestatic 26, 3) := by decide +kernel
theorem dJ5_init_d00df_30 : decode cJ5_init_d00df 30 = .ok (.putfield 15, 3) := by decide +kernel
theorem dJ5_init_d00df_33 : decode cJ5_init_d00df 33 = .ok (.aload_n 0, 1) := by decide +kernel
theorem dJ5_init_d00df_34 : decode cJ5_init_d00df 34 = .ok (.iconst 1, 1) := by decide +kernel
theorem dJ5_init_d00df_35 : decode cJ5_init_d00df 35 = .ok (.putfield 22, 3) := by decide +kernel
theorem dJ5_init_d00df_38 : decode cJ5_init_d00df 38 = .ok (.return_, 1) := by decide +kernel
theorem dJ5_length_8abf5_0 : decode cJ5_length_8abf5 0 = .ok (.aload_n 0, 1) := by decide +kernel
theorem dJ5_length_8abf5_1 : decode cJ5_length_8abf5 1 = .ok (.getfield 79, 3) := by decide +kernel
theorem dJ5_length_8abf5_4 : decode cJ5_length_8abf5 4 = .ok (.ireturn, 1) := by decide +kernel
theorem dJ5_ensureCapacityInternal_d00df_0 : decode cJ5_ensureCapacityInternal_d00df 0 = .ok (.aload_n 0, 1) := by decide +kernel
theorem dJ5_ensureCapacityInternal_d00df_1 : decode cJ5_ensureCapacityInternal_d00df 1 = .ok (.getfield 15, 3) := by decide +kernel
theorem dJ5_ensureCapacityInternal_d00df_4 : decode cJ5_ensureCapacityInternal_d00df 4 = .ok (.arraylength, 1) := by decide +kernel
theorem dJ5_ensureCapacityInternal_d00df_5 : decode cJ5_ensureCapacityInternal_d00df 5 = .ok (.aload_n 0, 1) := by decide +kernel
theorem dJ5_ensureCapacityInternal_d00df_6 : decode cJ5_ensureCapacityInternal_d00df 6 = .ok (.getfield 22, 3) := by decide +kernel
theorem dJ5_ensureCapacityInternal_d00df_9 : decode cJ5_ensureCapacityInternal_d00df 9 = .ok (.ishr, 1) := by decide +kernel
theorem dJ5_ensureCapacityInternal_d00df_10 : decode cJ5_ensureCapacityInternal_d00df 10 = .ok (.istore_n 2, 1) := by decide +kernel
theorem dJ5_ensureCapacityInternal_d00df_11 : decode cJ5_ensureCapacityInternal_d00df 11 = .ok (.iload_n 1, 1) := by decide +kernel
theorem dJ5_ensureCapacityInternal_d00df_12 : decode cJ5_ensureCapacityInternal_d00df 12 = .ok (.iload_n 2, 1) := by decide +kernel
theorem dJ5_ensureCapacityInternal_d00df_13 : decode cJ5_ensureCapacityInternal_d00df 13 = .ok (.isub, 1) := by decide +kernel
theorem dJ5_ensureCapacityInternal_d00df_14 : decode cJ5_ensureCapacityInternal_d00df 14 = .ok (.ifCond .le 24, 3) := by decide +kernel
theorem dJ5_ensureCapacityInternal_d00df_17 : decode cJ5_ensureCapacityInternal_d00df 17 = .ok (.aload_n 0, 1) := by decide +kernel
theorem dJ5_ensureCapacityInternal_d00df_18 : decode cJ5_ensureCapacityInternal_d00df 18 = .ok (.aload_n 0, 1) := by decide +kernel
theorem dJ5_ensureCapacityInternal_d00df_19 : decode cJ5_ensureCapacityInternal_d00df 19 = .ok (.getfield 15, 3) := by decide +kernel
theorem dJ5_ensureCapacityInternal_d00df_22 : decode cJ5_ensureCapacityInternal_d00df 22 = .ok (.aload_n 0, 1) := by decide +kernel
theorem dJ5_ensureCapacityInternal_d00df_23 : decode cJ5_ensureCapacityInternal_d00df 23 = .ok (.iload_n 1, 1) := by decide +kernel
theorem dJ5_ensureCapacityInternal_d00df_24 : decode cJ5_ensureCapacityInternal_d00df 24 = .ok (.invokevirtual 104, 3) := by decide +kernel
theorem dJ5_ensureCapacityInternal_d00df_27 : decode cJ5_ensureCapacityInternal_d00df 27 = .ok (.aload_n 0, 1) := by decide +kernel
theorem dJ5_ensureCapacityInternal_d00df_28 : decode cJ5_ensureCapacityInternal_d00df 28 = .ok (.getfield 22, 3) := by decide +kernel
theorem dJ5_ensureCapacityInternal_d00df_31 : decode cJ5_ensureCapacityInternal_d00df 31 = .ok (.ishl, 1) := by decide +kernel
theorem dJ5_ensureCapacityInternal_d00df_32 : decode cJ5_ensureCapacityInternal_d00df 32 = .ok (.invokestatic 108, 3) := by decide +kernel
theorem dJ5_ensureCapacityInternal_d00df_35 : decode cJ5_ensureCapacityInternal_d00df 35 = .ok (.putfield 15, 3) := by decide +kernel
theorem dJ5_ensureCapacityInternal_d00df_38 : decode cJ5_ensureCapacityInternal_d00df 38 = .ok (.return_, 1) := by decide +kernel
theorem dJ5_newCapacity_0f7a4_0 : decode cJ5_newCapacity_0f7a4 0 = .ok (.aload_n 0, 1) := by decide +kernel
theorem dJ5_newCapacity_0f7a4_1 : decode cJ5_newCapacity_0f7a4 1 = .ok (.getfield 15, 3) := by decide +kernel
theorem dJ5_newCapacity_0f7a4_4 : decode cJ5_newCapacity_0f7a4 4 = .ok (.arraylength, 1) := by decide +kernel
theorem dJ5_newCapacity_0f7a4_5 : decode cJ5_newCapacity_0f7a4 5 = .ok (.istore_n 2, 1) := by decide +kernel
theorem dJ5_newCapacity_0f7a4_6 : decode cJ5_newCapacity_0f7a4 6 = .ok (.iload_n 1, 1) := by decide +kernel
theorem dJ5_newCapacity_0f7a4_7 : decode cJ5_newCapacity_0f7a4 7 = .ok (.aload_n 0, 1) := by decide +kernel
theorem dJ5_newCapacity_0f7a4_8 : decode cJ5_newCapacity_0f7a4 8 = .ok (.getfield 22, 3) := by decide +kernel
theorem dJ5_newCapacity_0f7a4_11 : decode cJ5_newCapacity_0f7a4 11 = .ok (.ishl, 1) := by decide +kernel
theorem dJ5_newCapacity_0f7a4_12 : decode cJ5_newCapacity_0f7a4 12 = .ok (.istore_n 3, 1) := by decide +kernel
theorem dJ5_newCapacity_0f7a4_13 : decode cJ5_newCapacity_0f7a4 13 = .ok (.iload_n 3, 1) := by decide +kernel
theorem dJ5_newCapacity_0f7a4_14 : decode cJ5_newCapacity_0f7a4 14 = .ok (.iload_n 2, 1) := by decide +kernel
theorem dJ5_newCapacity_0f7a4_15 : decode cJ5_newCapacity_0f7a4 15 = .ok (.isub, 1) := by decide +kernel
theorem dJ5_newCapacity_0f7a4_16 : decode cJ5_newCapacity_0f7a4 16 = .ok (.istore 4, 2) := by decide +kernel
theorem dJ5_newCapacity_0f7a4_18 : decode cJ5_newCapacity_0f7a4 18 = .ok (.iload_n 2, 1) := by decide +kernel
theorem dJ5_newCapacity_0f7a4_19 : decode cJ5_newCapacity_0f7a4 19 = .ok (.iload 4, 2) := by decide +kernel
theorem dJ5_newCapacity_0f7a4_21 : decode cJ5_newCapacity_0f7a4 21 = .ok (.iload_n 2, 1) := by decide +kernel
theorem dJ5_newCapacity_0f7a4_22 : decode cJ5_newCapacity_0f7a4 22 = .ok (.iconst 2, 1) := by decide +kernel
theorem dJ5_newCapacity_0f7a4_23 : decode cJ5_newCapacity_0f7a4 23 = .ok (.aload_n 0, 1) := by decide +kernel
theorem dJ5_newCapacity_0f7a4_24 : decode cJ5_newCapacity_0f7a4 24 = .ok (.getfield 22, 3) := by decide +kernel
theorem dJ5_newCapacity_0f7a4_27 : decode cJ5_newCapacity_0f7a4 27 = .ok (.ishl, 1) := by decide +kernel
theorem dJ5_newCapacity_0f7a4_28 : decode cJ5_newCapacity_0f7a4 28 = .ok (.iadd, 1) := by decide +kernel
theorem dJ5_newCapacity_0f7a4_29 : decode cJ5_newCapacity_0f7a4 29 = .ok (.invokestatic 114, 3) := by decide +kernel
theorem dJ5_newCapacity_0f7a4_32 : decode cJ5_newCapacity_0f7a4 32 = .ok (.istore 5, 2) := by decide +kernel
theorem dJ5_newCapacity_0f7a4_34 : decode cJ5_newCapacity_0f7a4 34 = .ok (.iload 5, 2) := by decide +kernel
theorem dJ5_newCapacity_0f7a4_36 : decode cJ5_newCapacity_0f7a4 36 = .ok (.ldc 39, 2) := by decide +kernel
theorem dJ5_newCapacity_0f7a4_38 : decode cJ5_newCapacity_0f7a4 38 = .ok (.if_icmp .ne 13, 3) := by decide +kernel
theorem dJ5_newCapacity_0f7a4_41 : decode cJ5_newCapacity_0f7a4 41 = .ok (.new 120, 3) := by decide +kernel
theorem dJ5_newCapacity_0f7a4_44 : decode cJ5_newCapacity_0f7a4 44 = .ok (.dup, 1) := by decide +kernel
theorem dJ5_newCapacity_0f7a4_45 : decode cJ5_newCapacity_0f7a4 45 = .ok (.ldc 122, 2) := by decide +kernel
theorem dJ5_newCapacity_0f7a4_47 : decode cJ5_newCapacity_0f7a4 47 = .ok (.invokespecial 124, 3) := by decide +kernel
theorem dJ5_newCapacity_0f7a4_50 : decode cJ5_newCapacity_0f7a4 50 = .ok (.athrow, 1) := by decide +kernel
theorem dJ5_newCapacity_0f7a4_51 : decode cJ5_newCapacity_0f7a4 51 = .ok (.iload 5, 2) := by decide +kernel
theorem dJ5_newCapacity_0f7a4_53 : decode cJ5_newCapacity_0f7a4 53 = .ok (.aload_n 0, 1) := by decide +kernel
theorem dJ5_newCapacity_0f7a4_54 : decode cJ5_newCapacity_0f7a4 54 = .ok (.getfield 22, 3) := by decide +kernel
theorem dJ5_newCapacity_0f7a4_57 : decode cJ5_newCapacity_0f7a4 57 = .ok (.ishr, 1) := by decide +kernel
theorem dJ5_newCapacity_0f7a4_58 : decode cJ5_newCapacity_0f7a4 58 = .ok (.ireturn, 1) := by decide +kernel
theorem dJ5_inflate_da8c8_0 : decode cJ5_inflate_da8c8 0 = .ok (.aload_n 0, 1) := by decide +kernel
theorem dJ5_inflate_da8c8_1 : decode cJ5_inflate_da8c8 1 = .ok (.invokevirtual 83, 3) := by decide +kernel
theorem dJ5_inflate_da8c8_4 : decode cJ5_inflate_da8c8 4 = .ok (.ifCond .ne 4, 3) := by decide +kernel
theorem dJ5_inflate_da8c8_7 : decode cJ5_inflate_da8c8 7 = .ok (.return_, 1) := by decide +kernel
theorem dJ5_inflate_da8c8_8 : decode cJ5_inflate_da8c8 8 = .ok (.aload_n 0, 1) := by decide +kernel
theorem dJ5_inflate_da8c8_9 : decode cJ5_inflate_da8c8 9 = .ok (.getfield 15, 3) := by decide +kernel
theorem dJ5_inflate_da8c8_12 : decode cJ5_inflate_da8c8 12 = .ok (.arraylength, 1) := by decide +kernel
theorem dJ5_inflate_da8c8_13 : decode cJ5_inflate_da8c8 13 = .ok (.invokestatic 26, 3) := by decide +kernel
theorem dJ5_inflate_da8c8_16 : decode cJ5_inflate_da8c8 16 = .ok (.astore_n 1, 1) := by decide +kernel
theorem dJ5_inflate_da8c8_17 : decode cJ5_inflate_da8c8 17 = .ok (.aload_n 0, 1) := by decide +kernel
theorem dJ5_inflate_da8c8_18 : decode cJ5_inflate_da8c8 18 = .ok (.getfield 15, 3) := by decide +kernel
theorem dJ5_inflate_da8c8_21 : decode cJ5_inflate_da8c8 21 = .ok (.iconst 0, 1) := by decide +kernel
theorem dJ5_inflate_da8c8_22 : decode cJ5_inflate_da8c8 22 = .ok (.aload_n 1, 1) := by decide +kernel
theorem dJ5_inflate_da8c8_23 : decode cJ5_inflate_da8c8 23 = .ok (.iconst 0, 1) := by decide +kernel
theorem dJ5_inflate_da8c8_24 : decode cJ5_inflate_da8c8 24 = .ok (.aload_n 0, 1) := by decide +kernel
theorem dJ5_inflate_da8c8_25 : decode cJ5_inflate_da8c8 25 = .ok (.getfield 79, 3) := by decide +kernel
theorem dJ5_inflate_da8c8_28 : decode cJ5_inflate_da8c8 28 = .ok (.invokestatic 125, 3) := by decide +kernel
theorem dJ5_inflate_da8c8_31 : decode cJ5_inflate_da8c8 31 = .ok (.aload_n 0, 1) := by decide +kernel
theorem dJ5_inflate_da8c8_32 : decode cJ5_inflate_da8c8 32 = .ok (.aload_n 1, 1) := by decide +kernel
theorem dJ5_inflate_da8c8_33 : decode cJ5_inflate_da8c8 33 = .ok (.putfield 15, 3) := by decide +kernel
theorem dJ5_inflate_da8c8_36 : decode cJ5_inflate_da8c8 36 = .ok (.aload_n 0, 1) := by decide +kernel
theorem dJ5_inflate_da8c8_37 : decode cJ5_inflate_da8c8 37 = .ok (.iconst 1, 1) := by decide +kernel
theorem dJ5_inflate_da8c8_38 : decode cJ5_inflate_da8c8 38 = .ok (.putfield 22, 3) := by decide +kernel
theorem dJ5_inflate_da8c8_41 : decode cJ5_inflate_da8c8 41 = .ok (.return_, 1) := by decide +kernel
theorem dJ5_setLength_d00df_0 : decode cJ5_setLength_d00df 0 = .ok (.iload_n 1, 1) := by decide +kernel
theorem dJ5_setLength_d00df_1 : decode cJ5_setLength_d00df 1 = .ok (.ifCond .ge 12, 3) := by decide +kernel
theorem dJ5_setLength_d00df_4 : decode cJ5_setLength_d00df 4 = .ok (.new 129, 3) := by decide +kernel
theorem dJ5_setLength_d00df_7 : decode cJ5_setLength_d00df 7 = .ok (.dup, 1) := by decide +kernel
theorem dJ5_setLength_d00df_8 : decode cJ5_setLength_d00df 8 = .ok (.iload_n 1, 1) := by decide +kernel
theorem dJ5_setLength_d00df_9 : decode cJ5_setLength_d00df 9 = .ok (.invokespecial 131, 3) := by decide +kernel
theorem dJ5_setLength_d00df_12 : decode cJ5_setLength_d00df 12 = .ok (.athrow, 1) := by decide +kernel
theorem dJ5_setLength_d00df_13 : decode cJ5_setLength_d00df 13 = .ok (.aload_n 0, 1) := by decide +kernel
theorem dJ5_setLength_d00df_14 : decode cJ5_setLength_d00df 14 = .ok (.iload_n 1, 1) := by decide +kernel
theorem dJ5_setLength_d00df_15 : decode cJ5_setLength_d00df 15 = .ok (.invokevirtual 100, 3) := by decide +kernel
theorem dJ5_setLength_d00df_18 : decode cJ5_setLength_d00df 18 = .ok (.aload_n 0, 1) := by decide +kernel
theorem dJ5_setLength_d00df_19 : decode cJ5_setLength_d00df 19 = .ok (.getfield 79, 3) := by decide +kernel
theorem dJ5_setLength_d00df_22 : decode cJ5_setLength_d00df 22 = .ok (.iload_n 1, 1) := by decide +kernel
theorem dJ5_setLength_d00df_23 : decode cJ5_setLength_d00df 23 = .ok (.if_icmp .ge 40, 3) := by decide +kernel
theorem dJ5_setLength_d00df_26 : decode cJ5_setLength_d00df 26 = .ok (.aload_n 0, 1) := by decide +kernel
theorem dJ5_setLength_d00df_27 : decode cJ5_setLength_d00df 27 = .ok (.invokevirtual 83, 3) := by decide +kernel
theorem dJ5_setLength_d00df_30 : decode cJ5_setLength_d00df 30 = .ok (.ifCond .eq 18, 3) := by decide +kernel
theorem dJ5_setLength_d00df_33 : decode cJ5_setLength_d00df 33 = .ok (.aload_n 0, 1) := by decide +kernel
theorem dJ5_setLength_d00df_34 : decode cJ5_setLength_d00df 34 = .ok (.getfield 15, 3) := by decide +kernel
theorem dJ5_setLength_d00df_37 : decode cJ5_setLength_d00df 37 = .ok (.aload_n 0, 1) := by decide +kernel
theorem dJ5_setLength_d00df_38 : decode cJ5_setLength_d00df 38 = .ok (.getfield 79, 3) := by decide +kernel
theorem dJ5_setLength_d00df_41 : decode cJ5_setLength_d00df 41 = .ok (.iload_n 1, 1) := by decide +kernel
theorem dJ5_setLength_d00df_42 : decode cJ5_setLength_d00df 42 = .ok (.invokestatic 133, 3) := by decide +kernel
theorem dJ5_setLength_d00df_45 : decode cJ5_setLength_d00df 45 = .ok (.goto 31, 3) := by decide +kernel
theorem dJ5_setLength_d00df_48 : decode cJ5_setLength_d00df 48 = .ok (.aload_n 0, 1) := by decide +kernel
theorem dJ5_setLength_d00df_49 : decode cJ5_setLength_d00df 49 = .ok (.getfield 15, 3) := by decide +kernel
theorem dJ5_setLength_d00df_52 : decode cJ5_setLength_d00df 52 = .ok (.aload_n 0, 1) := by decide +kernel
theorem dJ5_setLength_d00df_53 : decode cJ5_setLength_d00df 53 = .ok (.getfield 79, 3) := by decide +kernel
theorem dJ5_setLength_d00df_56 : decode cJ5_setLength_d00df 56 = .ok (.iload_n 1, 1) := by decide +kernel
theorem dJ5_setLength_d00df_57 : decode cJ5_setLength_d00df 57 = .ok (.invokestatic 137, 3) := by decide +kernel
theorem dJ5_setLength_d00df_60 : decode cJ5_setLength_d00df 60 = .ok (.goto 16, 3) := by decide +kernel
theorem dJ5_setLength_d00df_63 : decode cJ5_setLength_d00df 63 = .ok (.aload_n 0, 1) := by decide +kernel
theorem dJ5_setLength_d00df_64 : decode cJ5_setLength_d00df 64 = .ok (.getfield 79, 3) := by decide +kernel
theorem dJ5_setLength_d00df_67 : decode cJ5_setLength_d00df 67 = .ok (.iload_n 1, 1) := by decide +kernel
theorem dJ5_setLength_d00df_68 : decode cJ5_setLength_d00df 68 = .ok (.if_icmp .le 8, 3) := by decide +kernel
theorem dJ5_setLength_d00df_71 : decode cJ5_setLength_d00df 71 = .ok (.aload_n 0, 1) := by decide +kernel
theorem dJ5_setLength_d00df_72 : decode cJ5_setLength_d00df 72 = .ok (.iconst 1, 1) := by decide +kernel
theorem dJ5_setLength_d00df_73 : decode cJ5_setLength_d00df 73 = .ok (.putfield 73, 3) := by decide +kernel
theorem dJ5_setLength_d00df_76 : decode cJ5_setLength_d00df 76 = .ok (.aload_n 0, 1) := by decide +kernel
theorem dJ5_setLength_d00df_77 : decode cJ5_setLength_d00df 77 = .ok (.iload_n 1, 1) := by decide +kernel
theorem dJ5_setLength_d00df_78 : decode cJ5_setLength_d00df 78 = .ok (.putfield 79, 3) := by decide +kernel
theorem dJ5_setLength_d00df_81 : decode cJ5_setLength_d00df 81 = .ok (.return_, 1) := by decide +kernel
theorem dJ5_charAt_5068e_0 : decode cJ5_charAt_5068e 0 = .ok (.aload_n 0, 1) := by decide +kernel
theorem dJ5_charAt_5068e_1 : decode cJ5_charAt_5068e 1 = .ok (.getfield 22, 3) := by decide +kernel
theorem dJ5_charAt_5068e_4 : decode cJ5_charAt_5068e 4 = .ok (.istore_n 2, 1) := by decide +kernel
theorem dJ5_charAt_5068e_5 : decode cJ5_charAt_5068e 5 = .ok (.aload_n 0, 1) := by decide +kernel
theorem dJ5_charAt_5068e_6 : decode cJ5_charAt_5068e 6 = .ok (.getfield 15, 3) := by decide +kernel
theorem dJ5_charAt_5068e_9 : decode cJ5_charAt_5068e 9 = .ok (.astore_n 3, 1) := by decide +kernel
theorem dJ5_charAt_5068e_10 : decode cJ5_charAt_5068e 10 = .ok (.aload_n 0, 1) := by decide +kernel
theorem dJ5_charAt_5068e_11 : decode cJ5_charAt_5068e 11 = .ok (.getfield 79, 3) := by decide +kernel
theorem dJ5_charAt_5068e_14 : decode cJ5_charAt_5068e 14 = .ok (.aload_n 3, 1) := by decide +kernel
theorem dJ5_charAt_5068e_15 : decode cJ5_charAt_5068e 15 = .ok (.arraylength, 1) := by decide +kernel
theorem dJ5_charAt_5068e_16 : decode cJ5_charAt_5068e 16 = .ok (.iload_n 2, 1) := by decide +kernel
theorem dJ5_charAt_5068e_17 : decode cJ5_charAt_5068e 17 = .ok (.ishr, 1) := by decide +kernel
theorem dJ5_charAt_5068e_18 : decode cJ5_charAt_5068e 18 = .ok (.invokestatic 138, 3) := by decide +kernel
theorem dJ5_charAt_5068e_21 : decode cJ5_charAt_5068e 21 = .ok (.istore 4, 2) := by decide +kernel
theorem dJ5_charAt_5068e_23 : decode cJ5_charAt_5068e 23 = .ok (.iload_n 1, 1) := by decide +kernel
theorem dJ5_charAt_5068e_24 : decode cJ5_charAt_5068e 24 = .ok (.iload 4, 2) := by decide +kernel
theorem dJ5_charAt_5068e_26 : decode cJ5_charAt_5068e 26 = .ok (.invokestatic 144, 3) := by decide +kernel
theorem dJ5_charAt_5068e_29 : decode cJ5_charAt_5068e 29 = .ok (.iload_n 2, 1) := by decide +kernel
theorem dJ5_charAt_5068e_30 : decode cJ5_charAt_5068e 30 = .ok (.ifCond .ne 12, 3) := by decide +kernel
theorem dJ5_charAt_5068e_33 : decode cJ5_charAt_5068e 33 = .ok (.aload_n 3, 1) := by decide +kernel
theorem dJ5_charAt_5068e_34 : decode cJ5_charAt_5068e 34 = .ok (.iload_n 1, 1) := by decide +kernel
theorem dJ5_charAt_5068e_35 : decode cJ5_charAt_5068e 35 = .ok (.baload, 1) := by decide +kernel
theorem dJ5_charAt_5068e_36 : decode cJ5_charAt_5068e 36 = .ok (.sipush 255, 3) := by decide +kernel
theorem dJ5_charAt_5068e_39 : decode cJ5_charAt_5068e 39 = .ok (.iand, 1) := by decide +kernel
theorem dJ5_charAt_5068e_40 : decode cJ5_charAt_5068e 40 = .ok (.i2c, 1) := by decide +kernel
theorem dJ5_charAt_5068e_41 : decode cJ5_charAt_5068e 41 = .ok (.ireturn, 1) := by decide +kernel
theorem dJ5_charAt_5068e_42 : decode cJ5_charAt_5068e 42 = .ok (.aload_n 3, 1) := by decide +kernel
theorem dJ5_charAt_5068e_43 : decode cJ5_charAt_5068e 43 = .ok (.iload_n 1, 1) := by decide +kernel
theorem dJ5_charAt_5068e_44 : decode cJ5_charAt_5068e 44 = .ok (.invokestatic 148, 3) := by decide +kernel
theorem dJ5_charAt_5068e_47 : decode cJ5_charAt_5068e 47 = .ok (.ireturn, 1) := by decide +kernel
theorem dJ5_append_cf1ce_0 : decode cJ5_append_cf1ce 0 = .ok (.aload_n 1, 1) := by decide +kernel
theorem dJ5_append_cf1ce_1 : decode cJ5_append_cf1ce 1 = .ok (.ifnonnull 8, 3) := by decide +kernel
theorem dJ5_append_cf1ce_4 : decode cJ5_append_cf1ce 4 = .ok (.aload_n 0, 1) := by decide +kernel
theorem dJ5_append_cf1ce_5 : decode cJ5_append_cf1ce 5 = .ok (.invokevirtual 204, 3) := by decide +kernel
theorem dJ5_append_cf1ce_8 : decode cJ5_append_cf1ce 8 = .ok (.areturn, 1) := by decide +kernel
theorem dJ5_append_cf1ce_9 : decode cJ5_append_cf1ce 9 = .ok (.aload_n 1, 1) := by decide +kernel
theorem dJ5_append_cf1ce_10 : decode cJ5_append_cf1ce 10 = .ok (.invokevirtual 32, 3) := by decide +kernel
theorem dJ5_append_cf1ce_13 : decode cJ5_append_cf1ce 13 = .ok (.istore_n 2, 1) := by decide +kernel
theorem dJ5_append_cf1ce_14 : decode cJ5_append_cf1ce 14 = .ok (.aload_n 0, 1) := by decide +kernel
theorem dJ5_append_cf1ce_15 : decode cJ5_append_cf1ce 15 = .ok (.aload_n 0, 1) := by decide +kernel
theorem dJ5_append_cf1ce_16 : decode cJ5_append_cf1ce 16 = .ok (.getfield 79, 3) := by decide +kernel
theorem dJ5_append_cf1ce_19 : decode cJ5_append_cf1ce 19 = .ok (.iload_n 2, 1) := by decide +kernel
theorem dJ5_append_cf1ce_20 : decode cJ5_append_cf1ce 20 = .ok (.iadd, 1) := by decide +kernel
theorem dJ5_append_cf1ce_21 : decode cJ5_append_cf1ce 21 = .ok (.invokevirtual 100, 3) := by decide +kernel
theorem dJ5_append_cf1ce_24 : decode cJ5_append_cf1ce 24 = .ok (.aload_n 0, 1) := by decide +kernel
theorem dJ5_append_cf1ce_25 : decode cJ5_append_cf1ce 25 = .ok (.aload_n 0, 1) := by decide +kernel
theorem dJ5_append_cf1ce_26 : decode cJ5_append_cf1ce 26 = .ok (.getfield 79, 3) := by decide +kernel
theorem dJ5_append_cf1ce_29 : decode cJ5_append_cf1ce 29 = .ok (.aload_n 1, 1) := by decide +kernel
theorem dJ5_append_cf1ce_30 : decode cJ5_append_cf1ce 30 = .ok (.invokevirtual 208, 3) := by decide +kernel
theorem dJ5_append_cf1ce_33 : decode cJ5_append_cf1ce 33 = .ok (.aload_n 0, 1) := by decide +kernel
theorem dJ5_append_cf1ce_34 : decode cJ5_append_cf1ce 34 = .ok (.dup, 1) := by decide +kernel
theorem dJ5_append_cf1ce_35 : decode cJ5_append_cf1ce 35 = .ok (.getfield 79, 3) := by decide +kernel
theorem dJ5_append_cf1ce_38 : decode cJ5_append_cf1ce 38 = .ok (.iload_n 2, 1) := by decide +kernel
theorem dJ5_append_cf1ce_39 : decode cJ5_append_cf1ce 39 = .ok (.iadd, 1) := by decide +kernel
theorem dJ5_append_cf1ce_40 : decode cJ5_append_cf1ce 40 = .ok (.putfield 79, 3) := by decide +kernel
theorem dJ5_append_cf1ce_43 : decode cJ5_append_cf1ce 43 = .ok (.aload_n 0, 1) := by decide +kernel
theorem dJ5_append_cf1ce_44 : decode cJ5_append_cf1ce 44 = .ok (.areturn, 1) := by decide +kernel
theorem dJ5_appendNull_278bc_0 : decode cJ5_appendNull_278bc 0 = .ok (.aload_n 0, 1) := by decide +kernel
theorem dJ5_appendNull_278bc_1 : decode cJ5_appendNull_278bc 1 = .ok (.aload_n 0, 1) := by decide +kernel
theorem dJ5_appendNull_278bc_2 : decode cJ5_appendNull_278bc 2 = .ok (.getfield 79, 3) := by decide +kernel
theorem dJ5_appendNull_278bc_5 : decode cJ5_appendNull_278bc 5 = .ok (.iconst 4, 1) := by decide +kernel
theorem dJ5_appendNull_278bc_6 : decode cJ5_appendNull_278bc 6 = .ok (.iadd, 1) := by decide +kernel
theorem dJ5_appendNull_278bc_7 : decode cJ5_appendNull_278bc 7 = .ok (.invokevirtual 100, 3) := by decide +kernel
theorem dJ5_appendNull_278bc_10 : decode cJ5_appendNull_278bc 10 = .ok (.aload_n 0, 1) := by decide +kernel
theorem dJ5_appendNull_278bc_11 : decode cJ5_appendNull_278bc 11 = .ok (.getfield 79, 3) := by decide +kernel
theorem dJ5_appendNull_278bc_14 : decode cJ5_appendNull_278bc 14 = .ok (.istore_n 1, 1) := by decide +kernel
theorem dJ5_appendNull_278bc_15 : decode cJ5_appendNull_278bc 15 = .ok (.aload_n 0, 1) := by decide +kernel
theorem dJ5_appendNull_278bc_16 : decode cJ5_appendNull_278bc 16 = .ok (.getfield 15, 3) := by decide +kernel
theorem dJ5_appendNull_278bc_19 : decode cJ5_appendNull_278bc 19 = .ok (.astore_n 2, 1) := by decide +kernel
theorem dJ5_appendNull_278bc_20 : decode cJ5_appendNull_278bc 20 = .ok (.aload_n 0, 1) := by decide +kernel
theorem dJ5_appendNull_278bc_21 : decode cJ5_appendNull_278bc 21 = .ok (.invokevirtual 83, 3) := by decide +kernel
theorem dJ5_appendNull_278bc_24 : decode cJ5_appendNull_278bc 24 = .ok (.ifCond .eq 38, 3) := by decide +kernel
theorem dJ5_appendNull_278bc_27 : decode cJ5_appendNull_278bc 27 = .ok (.aload_n 2, 1) := by decide +kernel
theorem dJ5_appendNull_278bc_28 : decode cJ5_appendNull_278bc 28 = .ok (.iload_n 1, 1) := by decide +kernel
theorem dJ5_appendNull_278bc_29 : decode cJ5_appendNull_278bc 29 = .ok (.iinc 1 1, 3) := by decide +kernel
theorem dJ5_appendNull_278bc_32 : decode cJ5_appendNull_278bc 32 = .ok (.bipush 110, 2) := by decide +kernel
theorem dJ5_appendNull_278bc_34 : decode cJ5_appendNull_278bc 34 = .ok (.bastore, 1) := by decide +kernel
theorem dJ5_appendNull_278bc_35 : decode cJ5_appendNull_278bc 35 = .ok (.aload_n 2, 1) := by decide +kernel
theorem dJ5_appendNull_278bc_36 : decode cJ5_appendNull_278bc 36 = .ok (.iload_n 1, 1) := by decide +kernel
theorem dJ5_appendNull_278bc_37 : decode cJ5_appendNull_278bc 37 = .ok (.iinc 1 1, 3) := by decide +kernel
theorem dJ5_appendNull_278bc_40 : decode cJ5_appendNull_278bc 40 = .ok (.bipush 117, 2) := by decide +kernel
theorem dJ5_appendNull_278bc_42 : decode cJ5_appendNull_278bc 42 = .ok (.bastore, 1) := by decide +kernel
theorem dJ5_appendNull_278bc_43 : decode cJ5_appendNull_278bc 43 = .ok (.aload_n 2, 1) := by decide +kernel
theorem dJ5_appendNull_278bc_44 : decode cJ5_appendNull_278bc 44 = .ok (.iload_n 1, 1) := by decide +kernel
theorem dJ5_appendNull_278bc_45 : decode cJ5_appendNull_278bc 45 = .ok (.iinc 1 1, 3) := by decide +kernel
theorem dJ5_appendNull_278bc_48 : decode cJ5_appendNull_278bc 48 = .ok (.bipush 108, 2) := by decide +kernel
theorem dJ5_appendNull_278bc_50 : decode cJ5_appendNull_278bc 50 = .ok (.bastore, 1) := by decide +kernel
theorem dJ5_appendNull_278bc_51 : decode cJ5_appendNull_278bc 51 = .ok (.aload_n 2, 1) := by decide +kernel
theorem dJ5_appendNull_278bc_52 : decode cJ5_appendNull_278bc 52 = .ok (.iload_n 1, 1) := by decide +kernel
theorem dJ5_appendNull_278bc_53 : decode cJ5_appendNull_278bc 53 = .ok (.iinc 1 1, 3) := by decide +kernel
theorem dJ5_appendNull_278bc_56 : decode cJ5_appendNull_278bc 56 = .ok (.bipush 108, 2) := by decide +kernel
theorem dJ5_appendNull_278bc_58 : decode cJ5_appendNull_278bc 58 = .ok (.bastore, 1) := by decide +kernel
theorem dJ5_appendNull_278bc_59 : decode cJ5_appendNull_278bc 59 = .ok (.goto 17, 3) := by decide +kernel
theorem dJ5_appendNull_278bc_62 : decode cJ5_appendNull_278bc 62 = .ok (.aload_n 2, 1) := by decide +kernel
theorem dJ5_appendNull_278bc_63 : decode cJ5_appendNull_278bc 63 = .ok (.iload_n 1, 1) := by decide +kernel
theorem dJ5_appendNull_278bc_64 : decode cJ5_appendNull_278bc 64 = .ok (.bipush 110, 2) := by decide +kernel
theorem dJ5_appendNull_278bc_66 : decode cJ5_appendNull_278bc 66 = .ok (.bipush 117, 2) := by decide +kernel
theorem dJ5_appendNull_278bc_68 : decode cJ5_appendNull_278bc 68 = .ok (.bipush 108, 2) := by decide +kernel
theorem dJ5_appendNull_278bc_70 : decode cJ5_appendNull_278bc 70 = .ok (.bipush 108, 2) := by decide +kernel
theorem dJ5_appendNull_278bc_72 : decode cJ5_appendNull_278bc 72 = .ok (.invokestatic 226, 3) := by decide +kernel
theorem dJ5_appendNull_278bc_75 : decode cJ5_appendNull_278bc 75 = .ok (.istore_n 1, 1) := by decide +kernel
theorem dJ5_appendNull_278bc_76 : decode cJ5_appendNull_278bc 76 = .ok (.aload_n 0, 1) := by decide +kernel
theorem dJ5_appendNull_278bc_77 : decode cJ5_appendNull_278bc 77 = .ok (.iload_n 1, 1) := by decide +kernel
theorem dJ5_appendNull_278bc_78 : decode cJ5_appendNull_278bc 78 = .ok (.putfield 79, 3) := by decide +kernel
theorem dJ5_appendNull_278bc_81 : decode cJ5_appendNull_278bc 81 = .ok (.aload_n 0, 1) := by decide +kernel
theorem dJ5_appendNull_278bc_82 : decode cJ5_appendNull_278bc 82 = .ok (.areturn, 1) := by decide +kernel
theorem dJ5_append_3fe6f_0 : decode cJ5_append_3fe6f 0 = .ok (.aload_n 0, 1) := by decide +kernel
theorem dJ5_append_3fe6f_1 : decode cJ5_append_3fe6f 1 = .ok (.aload_n 0, 1) := by decide +kernel
theorem dJ5_append_3fe6f_2 : decode cJ5_append_3fe6f 2 = .ok (.getfield 79, 3) := by decide +kernel
theorem dJ5_append_3fe6f_5 : decode cJ5_append_3fe6f 5 = .ok (.iconst 1, 1) := by decide +kernel
theorem dJ5_append_3fe6f_6 : decode cJ5_append_3fe6f 6 = .ok (.iadd, 1) := by decide +kernel
theorem dJ5_append_3fe6f_7 : decode cJ5_append_3fe6f 7 = .ok (.invokevirtual 100, 3) := by decide +kernel
theorem dJ5_append_3fe6f_10 : decode cJ5_append_3fe6f 10 = .ok (.aload_n 0, 1) := by decide +kernel
theorem dJ5_append_3fe6f_11 : decode cJ5_append_3fe6f 11 = .ok (.invokevirtual 83, 3) := by decide +kernel
theorem dJ5_append_3fe6f_14 : decode cJ5_append_3fe6f 14 = .ok (.ifCond .eq 31, 3) := by decide +kernel
theorem dJ5_append_3fe6f_17 : decode cJ5_append_3fe6f 17 = .ok (.iload_n 1, 1) := by decide +kernel
theorem dJ5_append_3fe6f_18 : decode cJ5_append_3fe6f 18 = .ok (.invokestatic 191, 3) := by decide +kernel
theorem dJ5_append_3fe6f_21 : decode cJ5_append_3fe6f 21 = .ok (.ifCond .eq 24, 3) := by decide +kernel
theorem dJ5_append_3fe6f_24 : decode cJ5_append_3fe6f 24 = .ok (.aload_n 0, 1) := by decide +kernel
theorem dJ5_append_3fe6f_25 : decode cJ5_append_3fe6f 25 = .ok (.getfield 15, 3) := by decide +kernel
theorem dJ5_append_3fe6f_28 : decode cJ5_append_3fe6f 28 = .ok (.aload_n 0, 1) := by decide +kernel
theorem dJ5_append_3fe6f_29 : decode cJ5_append_3fe6f 29 = .ok (.dup, 1) := by decide +kernel
theorem dJ5_append_3fe6f_30 : decode cJ5_append_3fe6f 30 = .ok (.getfield 79, 3) := by decide +kernel
theorem dJ5_append_3fe6f_33 : decode cJ5_append_3fe6f 33 = .ok (.dup_x1, 1) := by decide +kernel
theorem dJ5_append_3fe6f_34 : decode cJ5_append_3fe6f 34 = .ok (.iconst 1, 1) := by decide +kernel
theorem dJ5_append_3fe6f_35 : decode cJ5_append_3fe6f 35 = .ok (.iadd, 1) := by decide +kernel
theorem dJ5_append_3fe6f_36 : decode cJ5_append_3fe6f 36 = .ok (.putfield 79, 3) := by decide +kernel
theorem dJ5_append_3fe6f_39 : decode cJ5_append_3fe6f 39 = .ok (.iload_n 1, 1) := by decide +kernel
theorem dJ5_append_3fe6f_40 : decode cJ5_append_3fe6f 40 = .ok (.i2b, 1) := by decide +kernel
theorem dJ5_append_3fe6f_41 : decode cJ5_append_3fe6f 41 = .ok (.bastore, 1) := by decide +kernel
theorem dJ5_append_3fe6f_42 : decode cJ5_append_3fe6f 42 = .ok (.goto 33, 3) := by decide +kernel
theorem dJ5_append_3fe6f_45 : decode cJ5_append_3fe6f 45 = .ok (.aload_n 0, 1) := by decide +kernel
theorem dJ5_append_3fe6f_46 : decode cJ5_append_3fe6f 46 = .ok (.invokevirtual 83, 3) := by decide +kernel
theorem dJ5_append_3fe6f_49 : decode cJ5_append_3fe6f 49 = .ok (.ifCond .eq 7, 3) := by decide +kernel
theorem dJ5_append_3fe6f_52 : decode cJ5_append_3fe6f 52 = .ok (.aload_n 0, 1) := by decide +kernel
theorem dJ5_append_3fe6f_53 : decode cJ5_append_3fe6f 53 = .ok (.invokevirtual 195, 3) := by decide +kernel
theorem dJ5_append_3fe6f_56 : decode cJ5_append_3fe6f 56 = .ok (.aload_n 0, 1) := by decide +kernel
theorem dJ5_append_3fe6f_57 : decode cJ5_append_3fe6f 57 = .ok (.getfield 15, 3) := by decide +kernel
theorem dJ5_append_3fe6f_60 : decode cJ5_append_3fe6f 60 = .ok (.aload_n 0, 1) := by decide +kernel
theorem dJ5_append_3fe6f_61 : decode cJ5_append_3fe6f 61 = .ok (.dup, 1) := by decide +kernel
theorem dJ5_append_3fe6f_62 : decode cJ5_append_3fe6f 62 = .ok (.getfield 79, 3) := by decide +kernel
theorem dJ5_append_3fe6f_65 : decode cJ5_append_3fe6f 65 = .ok (.dup_x1, 1) := by decide +kernel
theorem dJ5_append_3fe6f_66 : decode cJ5_append_3fe6f 66 = .ok (.iconst 1, 1) := by decide +kernel
theorem dJ5_append_3fe6f_67 : decode cJ5_append_3fe6f 67 = .ok (.iadd, 1) := by decide +kernel
theorem dJ5_append_3fe6f_68 : decode cJ5_append_3fe6f 68 = .ok (.putfield 79, 3) := by decide +kernel
theorem dJ5_append_3fe6f_71 : decode cJ5_append_3fe6f 71 = .ok (.iload_n 1, 1) := by decide +kernel
theorem dJ5_append_3fe6f_72 : decode cJ5_append_3fe6f 72 = .ok (.invokestatic 197, 3) := by decide +kernel
theorem dJ5_append_3fe6f_75 : decode cJ5_append_3fe6f 75 = .ok (.aload_n 0, 1) := by decide +kernel
theorem dJ5_append_3fe6f_76 : decode cJ5_append_3fe6f 76 = .ok (.areturn, 1) := by decide +kernel
theorem dJ5_append_c97b9_0 : decode cJ5_append_c97b9 0 = .ok (.aload_n 0, 1) := by decide +kernel
theorem dJ5_append_c97b9_1 : decode cJ5_append_c97b9 1 = .ok (.getfield 79, 3) := by decide +kernel
theorem dJ5_append_c97b9_4 : decode cJ5_append_c97b9 4 = .ok (.istore_n 2, 1) := by decide +kernel
theorem dJ5_append_c97b9_5 : decode cJ5_append_c97b9 5 = .ok (.iload_n 2, 1) := by decide +kernel
theorem dJ5_append_c97b9_6 : decode cJ5_append_c97b9 6 = .ok (.iload_n 1, 1) := by decide +kernel
theorem dJ5_append_c97b9_7 : decode cJ5_append_c97b9 7 = .ok (.invokestatic 245, 3) := by decide +kernel
theorem dJ5_append_c97b9_10 : decode cJ5_append_c97b9 10 = .ok (.iadd, 1) := by decide +kernel
theorem dJ5_append_c97b9_11 : decode cJ5_append_c97b9 11 = .ok (.istore_n 3, 1) := by decide +kernel
theorem dJ5_append_c97b9_12 : decode cJ5_append_c97b9 12 = .ok (.aload_n 0, 1) := by decide +kernel
theorem dJ5_append_c97b9_13 : decode cJ5_append_c97b9 13 = .ok (.iload_n 3, 1) := by decide +kernel
theorem dJ5_append_c97b9_14 : decode cJ5_append_c97b9 14 = .ok (.invokevirtual 100, 3) := by decide +kernel
theorem dJ5_append_c97b9_17 : decode cJ5_append_c97b9 17 = .ok (.aload_n 0, 1) := by decide +kernel
theorem dJ5_append_c97b9_18 : decode cJ5_append_c97b9 18 = .ok (.invokevirtual 83, 3) := by decide +kernel
theorem dJ5_append_c97b9_21 : decode cJ5_append_c97b9 21 = .ok (.ifCond .eq 16, 3) := by decide +kernel
theorem dJ5_append_c97b9_24 : decode cJ5_append_c97b9 24 = .ok (.iload_n 1, 1) := by decide +kernel
theorem dJ5_append_c97b9_25 : decode cJ5_append_c97b9 25 = .ok (.iload_n 3, 1) := by decide +kernel
theorem dJ5_append_c97b9_26 : decode cJ5_append_c97b9 26 = .ok (.aload_n 0, 1) := by decide +kernel
theorem dJ5_append_c97b9_27 : decode cJ5_append_c97b9 27 = .ok (.getfield 15, 3) := by decide +kernel
theorem dJ5_append_c97b9_30 : decode cJ5_append_c97b9 30 = .ok (.invokestatic 248, 3) := by decide +kernel
theorem dJ5_append_c97b9_33 : decode cJ5_append_c97b9 33 = .ok (.pop, 1) := by decide +kernel
theorem dJ5_append_c97b9_34 : decode cJ5_append_c97b9 34 = .ok (.goto 14, 3) := by decide +kernel
theorem dJ5_append_c97b9_37 : decode cJ5_append_c97b9 37 = .ok (.iload_n 1, 1) := by decide +kernel
theorem dJ5_append_c97b9_38 : decode cJ5_append_c97b9 38 = .ok (.iload_n 2, 1) := by decide +kernel
theorem dJ5_append_c97b9_39 : decode cJ5_append_c97b9 39 = .ok (.iload_n 3, 1) := by decide +kernel
theorem dJ5_append_c97b9_40 : decode cJ5_append_c97b9 40 = .ok (.aload_n 0, 1) := by decide +kernel
theorem dJ5_append_c97b9_41 : decode cJ5_append_c97b9 41 = .ok (.getfield 15, 3) := by decide +kernel
theorem dJ5_append_c97b9_44 : decode cJ5_append_c97b9 44 = .ok (.invokestatic 251, 3) := by decide +kernel
theorem dJ5_append_c97b9_47 : decode cJ5_append_c97b9 47 = .ok (.pop, 1) := by decide +kernel
theorem dJ5_append_c97b9_48 : decode cJ5_append_c97b9 48 = .ok (.aload_n 0, 1) := by decide +kernel
theorem dJ5_append_c97b9_49 : decode cJ5_append_c97b9 49 = .ok (.iload_n 3, 1) := by decide +kernel
theorem dJ5_append_c97b9_50 : decode cJ5_append_c97b9 50 = .ok (.putfield 79, 3) := by decide +kernel
theorem dJ5_append_c97b9_53 : decode cJ5_append_c97b9 53 = .ok (.aload_n 0, 1) := by decide +kernel
theorem dJ5_append_c97b9_54 : decode cJ5_append_c97b9 54 = .ok (.areturn, 1) := by decide +kernel
theorem dJ5_getValue_6d5f1_0 : decode cJ5_getValue_6d5f1 0 = .ok (.aload_n 0, 1) := by decide +kernel
theorem dJ5_getValue_6d5f1_1 : decode cJ5_getValue_6d5f1 1 = .ok (.getfield 15, 3) := by decide +kernel
theorem dJ5_getValue_6d5f1_4 : decode cJ5_getValue_6d5f1 4 = .ok (.areturn, 1) := by decide +kernel
theorem dJ5_isLatin1_aae02_0 : decode cJ5_isLatin1_aae02 0 = .ok (.getstatic 18, 3) := by decide +kernel
theorem dJ5_isLatin1_aae02_3 : decode cJ5_isLatin1_aae02 3 = .ok (.ifCond .eq 14, 3) := by decide +kernel
theorem dJ5_isLatin1_aae02_6 : decode cJ5_isLatin1_aae02 6 = .ok (.aload_n 0, 1) := by decide +kernel
theorem dJ5_isLatin1_aae02_7 : decode cJ5_isLatin1_aae02 7 = .ok (.getfield 22, 3) := by decide +kernel
theorem dJ5_isLatin1_aae02_10 : decode cJ5_isLatin1_aae02 10 = .ok (.ifCond .ne 7, 3) := by decide +kernel
theorem dJ5_isLatin1_aae02_13 : decode cJ5_isLatin1_aae02 13 = .ok (.iconst 1, 1) := by decide +kernel
theorem dJ5_isLatin1_aae02_14 : decode cJ5_isLatin1_aae02 14 = .ok (.goto 4, 3) := by decide +kernel
theorem dJ5_isLatin1_aae02_17 : decode cJ5_isLatin1_aae02 17 = .ok (.iconst 0, 1) := by decide +kernel
theorem dJ5_isLatin1_aae02_18 : decode cJ5_isLatin1_aae02 18 = .ok (.ireturn, 1) := by decide +kernel
theorem dJ5_inflateIfNeededFor_a7421_0 : decode cJ5_inflateIfNeededFor_a7421 0 = .ok (.getstatic 18, 3) := by decide +kernel
theorem dJ5_inflateIfNeededFor_a7421_3 : decode cJ5_inflateIfNeededFor_a7421 3 = .ok (.ifCond .eq 18, 3) := by decide +kernel
theorem dJ5_inflateIfNeededFor_a7421_6 : decode cJ5_inflateIfNeededFor_a7421 6 = .ok (.aload_n 0, 1) := by decide +kernel
theorem dJ5_inflateIfNeededFor_a7421_7 : decode cJ5_inflateIfNeededFor_a7421 7 = .ok (.getfield 22, 3) := by decide +kernel
theorem dJ5_inflateIfNeededFor_a7421_10 : decode cJ5_inflateIfNeededFor_a7421 10 = .ok (.aload_n 1, 1) := by decide +kernel
theorem dJ5_inflateIfNeededFor_a7421_11 : decode cJ5_inflateIfNeededFor_a7421 11 = .ok (.invokevirtual 40, 3) := by decide +kernel
theorem dJ5_inflateIfNeededFor_a7421_14 : decode cJ5_inflateIfNeededFor_a7421 14 = .ok (.if_icmp .eq 7, 3) := by decide +kernel
theorem dJ5_inflateIfNeededFor_a7421_17 : decode cJ5_inflateIfNeededFor_a7421 17 = .ok (.aload_n 0, 1) := by decide +kernel
theorem dJ5_inflateIfNeededFor_a7421_18 : decode cJ5_inflateIfNeededFor_a7421 18 = .ok (.invokevirtual 195, 3) := by decide +kernel
theorem dJ5_inflateIfNeededFor_a7421_21 : decode cJ5_inflateIfNeededFor_a7421 21 = .ok (.return_, 1) := by decide +kernel
theorem dJ5_putStringAt_47b60_0 : decode cJ5_putStringAt_47b60 0 = .ok (.aload_n 0, 1) := by decide +kernel
theorem dJ5_putStringAt_47b60_1 : decode cJ5_putStringAt_47b60 1 = .ok (.aload_n 2, 1) := by decide +kernel
theorem dJ5_putStringAt_47b60_2 : decode cJ5_putStringAt_47b60 2 = .ok (.invokevirtual 397, 3) := by decide +kernel
theorem dJ5_putStringAt_47b60_5 : decode cJ5_putStringAt_47b60 5 = .ok (.aload_n 2, 1) := by decide +kernel
theorem dJ5_putStringAt_47b60_6 : decode cJ5_putStringAt_47b60 6 = .ok (.aload_n 0, 1) := by decide +kernel
theorem dJ5_putStringAt_47b60_7 : decode cJ5_putStringAt_47b60 7 = .ok (.getfield 15, 3) := by decide +kernel
theorem dJ5_putStringAt_47b60_10 : decode cJ5_putStringAt_47b60 10 = .ok (.iload_n 1, 1) := by decide +kernel
theorem dJ5_putStringAt_47b60_11 : decode cJ5_putStringAt_47b60 11 = .ok (.aload_n 0, 1) := by decide +kernel
theorem dJ5_putStringAt_47b60_12 : decode cJ5_putStringAt_47b60 12 = .ok (.getfield 22, 3) := by decide +kernel
theorem dJ5_putStringAt_47b60_15 : decode cJ5_putStringAt_47b60 15 = .ok (.invokevirtual 399, 3) := by decide +kernel
theorem dJ5_putStringAt_47b60_18 : decode cJ5_putStringAt_47b60 18 = .ok (.return_, 1) := by decide +kernel
theorem dJx00060_init_d00df_0 : decode cJx00060_init_d00df 0 = .ok (.aload_n 0, 1) := by decide +kernel
theorem dJx00060_init_d00df_1 : decode cJx00060_init_d00df 1 = .ok (.new 10, 3) := by decide +kernel
theorem dJx00060_init_d00df_4 : decode cJx00060_init_d00df 4 = .ok (.dup, 1) := by decide +kernel
theorem dJx00060_init_d00df_5 : decode cJx00060_init_d00df 5 = .ok (.invokespecial 12, 3) := by decide +kernel
theorem dJx00060_init_d00df_8 : decode cJx00060_init_d00df 8 = .ok (.ldc 13, 2) := by decide +kernel
theorem dJx00060_init_d00df_10 : decode cJx00060_init_d00df 10 = .ok (.invokevirtual 15, 3) := by decide +kernel
theorem dJx00060_init_d00df_13 : decode cJx00060_init_d00df 13 = .ok (.iload_n 1, 1) := by decide +kernel
theorem dJx00060_init_d00df_14 : decode cJx00060_init_d00df 14 = .ok (.invokevirtual 19, 3) := by decide +kernel
theorem dJx00060_init_d00df_17 : decode cJx00060_init_d00df 17 = .ok (.invokevirtual 22, 3) := by decide +kernel
theorem dJx00060_init_d00df_20 : decode cJx00060_init_d00df 20 = .ok (.invokespecial 7, 3) := by decide +kernel
theorem dJx00060_init_d00df_23 : decode cJx00060_init_d00df 23 = .ok (.return_, 1) := by decide +kernel
theorem dJ6_getChars_ba4f3_0 : decode cJ6_getChars_ba4f3 0 = .ok (.iload_n 1, 1) := by decide +kernel
theorem dJ6_getChars_ba4f3_1 : decode cJ6_getChars_ba4f3 1 = .ok (.istore 5, 2) := by decide +kernel
theorem dJ6_getChars_ba4f3_3 : decode cJ6_getChars_ba4f3 3 = .ok (.iload_n 0, 1) := by decide +kernel
theorem dJ6_getChars_ba4f3_4 : decode cJ6_getChars_ba4f3 4 = .ok (.ifCond .ge 7, 3) := by decide +kernel
theorem dJ6_getChars_ba4f3_7 : decode cJ6_getChars_ba4f3 7 = .ok (.iconst 1, 1) := by decide +kernel
theorem dJ6_getChars_ba4f3_8 : decode cJ6_getChars_ba4f3 8 = .ok (.goto 4, 3) := by decide +kernel
theorem dJ6_getChars_ba4f3_11 : decode cJ6_getChars_ba4f3 11 = .ok (.iconst 0, 1) := by decide +kernel
theorem dJ6_getChars_ba4f3_12 : decode cJ6_getChars_ba4f3 12 = .ok (.istore 6, 2) := by decide +kernel
theorem dJ6_getChars_ba4f3_14 : decode cJ6_getChars_ba4f3 14 = .ok (.iload 6, 2) := by decide +kernel
theorem dJ6_getChars_ba4f3_16 : decode cJ6_getChars_ba4f3 16 = .ok (.ifCond .ne 6, 3) := by decide +kernel
theorem dJ6_getChars_ba4f3_19 : decode cJ6_getChars_ba4f3 19 = .ok (.iload_n 0, 1) := by decide +kernel
theorem dJ6_getChars_ba4f3_20 : decode cJ6_getChars_ba4f3 20 = .ok (.ineg, 1) := by decide +kernel
theorem dJ6_getChars_ba4f3_21 : decode cJ6_getChars_ba4f3 21 = .ok (.istore_n 0, 1) := by decide +kernel
theorem dJ6_getChars_ba4f3_22 : decode cJ6_getChars_ba4f3 22 = .ok (.iload_n 0, 1) := by decide +kernel
theorem dJ6_getChars_ba4f3_23 : decode cJ6_getChars_ba4f3 23 = .ok (.bipush (-100), 2) := by decide +kernel
theorem dJ6_getChars_ba4f3_25 : decode cJ6_getChars_ba4f3 25 = .ok (.if_icmp .gt 47, 3) := by decide +kernel
theorem dJ6_getChars_ba4f3_28 : decode cJ6_getChars_ba4f3 28 = .ok (.iload_n 0, 1) := by decide +kernel
theorem dJ6_getChars_ba4f3_29 : decode cJ6_getChars_ba4f3 29 = .ok (.bipush 100, 2) := by decide +kernel
theorem dJ6_getChars_ba4f3_31 : decode cJ6_getChars_ba4f3 31 = .ok (.idiv, 1) := by decide +kernel
theorem dJ6_getChars_ba4f3_32 : decode cJ6_getChars_ba4f3 32 = .ok (.istore_n 3, 1) := by decide +kernel
theorem dJ6_getChars_ba4f3_33 : decode cJ6_getChars_ba4f3 33 = .ok (.iload_n 3, 1) := by decide +kernel
theorem dJ6_getChars_ba4f3_34 : decode cJ6_getChars_ba4f3 34 = .ok (.bipush 100, 2) := by decide +kernel
theorem dJ6_getChars_ba4f3_36 : decode cJ6_getChars_ba4f3 36 = .ok (.imul, 1) := by decide +kernel
theorem dJ6_getChars_ba4f3_37 : decode cJ6_getChars_ba4f3 37 = .ok (.iload_n 0, 1) := by decide +kernel
theorem dJ6_getChars_ba4f3_38 : decode cJ6_getChars_ba4f3 38 = .ok (.isub, 1) := by decide +kernel
theorem dJ6_getChars_ba4f3_39 : decode cJ6_getChars_ba4f3 39 = .ok (.istore 4, 2) := by decide +kernel
theorem dJ6_getChars_ba4f3_41 : decode cJ6_getChars_ba4f3 41 = .ok (.iload_n 3, 1) := by decide +kernel
theorem dJ6_getChars_ba4f3_42 : decode cJ6_getChars_ba4f3 42 = .ok (.istore_n 0, 1) := by decide +kernel
theorem dJ6_getChars_ba4f3_43 : decode cJ6_getChars_ba4f3 43 = .ok (.aload_n 2, 1) := by decide +kernel
theorem dJ6_getChars_ba4f3_44 : decode cJ6_getChars_ba4f3 44 = .ok (.iinc 5 (-1), 3) := by decide +kernel
theorem dJ6_getChars_ba4f3_47 : decode cJ6_getChars_ba4f3 47 = .ok (.iload 5, 2) := by decide +kernel
theorem dJ6_getChars_ba4f3_49 : decode cJ6_getChars_ba4f3 49 = .ok (.getstatic 83, 3) := by decide +kernel
theorem dJ6_getChars_ba4f3_52 : decode cJ6_getChars_ba4f3 52 = .ok (.iload 4, 2) := by decide +kernel
theorem dJ6_getChars_ba4f3_54 : decode cJ6_getChars_ba4f3 54 = .ok (.baload, 1) := by decide +kernel
theorem dJ6_getChars_ba4f3_55 : decode cJ6_getChars_ba4f3 55 = .ok (.bastore, 1) := by decide +kernel
theorem dJ6_getChars_ba4f3_56 : decode cJ6_getChars_ba4f3 56 = .ok (.aload_n 2, 1) := by decide +kernel
theorem dJ6_getChars_ba4f3_57 : decode cJ6_getChars_ba4f3 57 = .ok (.iinc 5 (-1), 3) := by decide +kernel
theorem dJ6_getChars_ba4f3_60 : decode cJ6_getChars_ba4f3 60 = .ok (.iload 5, 2) := by decide +kernel
theorem dJ6_getChars_ba4f3_62 : decode cJ6_getChars_ba4f3 62 = .ok (.getstatic 87, 3) := by decide +kernel
theorem dJ6_getChars_ba4f3_65 : decode cJ6_getChars_ba4f3 65 = .ok (.iload 4, 2) := by decide +kernel
theorem dJ6_getChars_ba4f3_67 : decode cJ6_getChars_ba4f3 67 = .ok (.baload, 1) := by decide +kernel
theorem dJ6_getChars_ba4f3_68 : decode cJ6_getChars_ba4f3 68 = .ok (.bastore, 1) := by decide +kernel
theorem dJ6_getChars_ba4f3_69 : decode cJ6_getChars_ba4f3 69 = .ok (.goto (-47), 3) := by decide +kernel
theorem dJ6_getChars_ba4f3_72 : decode cJ6_getChars_ba4f3 72 = .ok (.aload_n 2, 1) := by decide +kernel
theorem dJ6_getChars_ba4f3_73 : decode cJ6_getChars_ba4f3 73 = .ok (.iinc 5 (-1), 3) := by decide +kernel
theorem dJ6_getChars_ba4f3_76 : decode cJ6_getChars_ba4f3 76 = .ok (.iload 5, 2) := by decide +kernel
theorem dJ6_getChars_ba4f3_78 : decode cJ6_getChars_ba4f3 78 = .ok (.getstatic 83, 3) := by decide +kernel
theorem dJ6_getChars_ba4f3_81 : decode cJ6_getChars_ba4f3 81 = .ok (.iload_n 0, 1) := by decide +kernel
theorem dJ6_getChars_ba4f3_82 : decode cJ6_getChars_ba4f3 82 = .ok (.ineg, 1) := by decide +kernel
theorem dJ6_getChars_ba4f3_83 : decode cJ6_getChars_ba4f3 83 = .ok (.baload, 1) := by decide +kernel
theorem dJ6_getChars_ba4f3_84 : decode cJ6_getChars_ba4f3 84 = .ok (.bastore, 1) := by decide +kernel
theorem dJ6_getChars_ba4f3_85 : decode cJ6_getChars_ba4f3 85 = .ok (.iload_n 0, 1) := by decide +kernel
theorem dJ6_getChars_ba4f3_86 : decode cJ6_getChars_ba4f3 86 = .ok (.bipush (-9), 2) := by decide +kernel
theorem dJ6_getChars_ba4f3_88 : decode cJ6_getChars_ba4f3 88 = .ok (.if_icmp .ge 16, 3) := by decide +kernel
theorem dJ6_getChars_ba4f3_91 : decode cJ6_getChars_ba4f3 91 = .ok (.aload_n 2, 1) := by decide +kernel
theorem dJ6_getChars_ba4f3_92 : decode cJ6_getChars_ba4f3 92 = .ok (.iinc 5 (-1), 3) := by decide +kernel
theorem dJ6_getChars_ba4f3_95 : decode cJ6_getChars_ba4f3 95 = .ok (.iload 5, 2) := by decide +kernel
theorem dJ6_getChars_ba4f3_97 : decode cJ6_getChars_ba4f3 97 = .ok (.getstatic 87, 3) := by decide +kernel
theorem dJ6_getChars_ba4f3_100 : decode cJ6_getChars_ba4f3 100 = .ok (.iload_n 0, 1) := by decide +kernel
theorem dJ6_getChars_ba4f3_101 : decode cJ6_getChars_ba4f3 101 = .ok (.ineg, 1) := by decide +kernel
theorem dJ6_getChars_ba4f3_102 : decode cJ6_getChars_ba4f3 102 = .ok (.baload, 1) := by decide +kernel
theorem dJ6_getChars_ba4f3_103 : decode cJ6_getChars_ba4f3 103 = .ok (.bastore, 1) := by decide +kernel
theorem dJ6_getChars_ba4f3_104 : decode cJ6_getChars_ba4f3 104 = .ok (.iload 6, 2) := by decide +kernel
theorem dJ6_getChars_ba4f3_106 : decode cJ6_getChars_ba4f3 106 = .ok (.ifCond .eq 12, 3) := by decide +kernel
theorem dJ6_getChars_ba4f3_109 : decode cJ6_getChars_ba4f3 109 = .ok (.aload_n 2, 1) := by decide +kernel
theorem dJ6_getChars_ba4f3_110 : decode cJ6_getChars_ba4f3 110 = .ok (.iinc 5 (-1), 3) := by decide +kernel
theorem dJ6_getChars_ba4f3_113 : decode cJ6_getChars_ba4f3 113 = .ok (.iload 5, 2) := by decide +kernel
theorem dJ6_getChars_ba4f3_115 : decode cJ6_getChars_ba4f3 115 = .ok (.bipush 45, 2) := by decide +kernel
theorem dJ6_getChars_ba4f3_117 : decode cJ6_getChars_ba4f3 117 = .ok (.bastore, 1) := by decide +kernel
theorem dJ6_getChars_ba4f3_118 : decode cJ6_getChars_ba4f3 118 = .ok (.iload 5, 2) := by decide +kernel
theorem dJ6_getChars_ba4f3_120 : decode cJ6_getChars_ba4f3 120 = .ok (.ireturn, 1) := by decide +kernel
theorem dJ6_stringSize_0f7a4_0 : decode cJ6_stringSize_0f7a4 0 = .ok (.iconst 1, 1) := by decide +kernel
theorem dJ6_stringSize_0f7a4_1 : decode cJ6_stringSize_0f7a4 1 = .ok (.istore_n 1, 1) := by decide +kernel
theorem dJ6_stringSize_0f7a4_2 : decode cJ6_stringSize_0f7a4 2 = .ok (.iload_n 0, 1) := by decide +kernel
theorem dJ6_stringSize_0f7a4_3 : decode cJ6_stringSize_0f7a4 3 = .ok (.ifCond .lt 8, 3) := by decide +kernel
theorem dJ6_stringSize_0f7a4_6 : decode cJ6_stringSize_0f7a4 6 = .ok (.iconst 0, 1) := by decide +kernel
theorem dJ6_stringSize_0f7a4_7 : decode cJ6_stringSize_0f7a4 7 = .ok (.istore_n 1, 1) := by decide +kernel
theorem dJ6_stringSize_0f7a4_8 : decode cJ6_stringSize_0f7a4 8 = .ok (.iload_n 0, 1) := by decide +kernel
theorem dJ6_stringSize_0f7a4_9 : decode cJ6_stringSize_0f7a4 9 = .ok (.ineg, 1) := by decide +kernel
theorem dJ6_stringSize_0f7a4_10 : decode cJ6_stringSize_0f7a4 10 = .ok (.istore_n 0, 1) := by decide +kernel
theorem dJ6_stringSize_0f7a4_11 : decode cJ6_stringSize_0f7a4 11 = .ok (.bipush (-10), 2) := by decide +kernel
theorem dJ6_stringSize_0f7a4_13 : decode cJ6_stringSize_0f7a4 13 = .ok (.istore_n 2, 1) := by decide +kernel
theorem dJ6_stringSize_0f7a4_14 : decode cJ6_stringSize_0f7a4 14 = .ok (.iconst 1, 1) := by decide +kernel
theorem dJ6_stringSize_0f7a4_15 : decode cJ6_stringSize_0f7a4 15 = .ok (.istore_n 3, 1) := by decide +kernel
theorem dJ6_stringSize_0f7a4_16 : decode cJ6_stringSize_0f7a4 16 = .ok (.iload_n 3, 1) := by decide +kernel
theorem dJ6_stringSize_0f7a4_17 : decode cJ6_stringSize_0f7a4 17 = .ok (.bipush 10, 2) := by decide +kernel
theorem dJ6_stringSize_0f7a4_19 : decode cJ6_stringSize_0f7a4 19 = .ok (.if_icmp .ge 23, 3) := by decide +kernel
theorem dJ6_stringSize_0f7a4_22 : decode cJ6_stringSize_0f7a4 22 = .ok (.iload_n 0, 1) := by decide +kernel
theorem dJ6_stringSize_0f7a4_23 : decode cJ6_stringSize_0f7a4 23 = .ok (.iload_n 2, 1) := by decide +kernel
theorem dJ6_stringSize_0f7a4_24 : decode cJ6_stringSize_0f7a4 24 = .ok (.if_icmp .le 7, 3) := by decide +kernel
theorem dJ6_stringSize_0f7a4_27 : decode cJ6_stringSize_0f7a4 27 = .ok (.iload_n 3, 1) := by decide +kernel
theorem dJ6_stringSize_0f7a4_28 : decode cJ6_stringSize_0f7a4 28 = .ok (.iload_n 1, 1) := by decide +kernel
theorem dJ6_stringSize_0f7a4_29 : decode cJ6_stringSize_0f7a4 29 = .ok (.iadd, 1) := by decide +kernel
theorem dJ6_stringSize_0f7a4_30 : decode cJ6_stringSize_0f7a4 30 = .ok (.ireturn, 1) := by decide +kernel
theorem dJ6_stringSize_0f7a4_31 : decode cJ6_stringSize_0f7a4 31 = .ok (.bipush 10, 2) := by decide +kernel
theorem dJ6_stringSize_0f7a4_33 : decode cJ6_stringSize_0f7a4 33 = .ok (.iload_n 2, 1) := by decide +kernel
theorem dJ6_stringSize_0f7a4_34 : decode cJ6_stringSize_0f7a4 34 = .ok (.imul, 1) := by decide +kernel
theorem dJ6_stringSize_0f7a4_35 : decode cJ6_stringSize_0f7a4 35 = .ok (.istore_n 2, 1) := by decide +kernel
theorem dJ6_stringSize_0f7a4_36 : decode cJ6_stringSize_0f7a4 36 = .ok (.iinc 3 1, 3) := by decide +kernel
theorem dJ6_stringSize_0f7a4_39 : decode cJ6_stringSize_0f7a4 39 = .ok (.goto (-23), 3) := by decide +kernel
theorem dJ6_stringSize_0f7a4_42 : decode cJ6_stringSize_0f7a4 42 = .ok (.bipush 10, 2) := by decide +kernel
theorem dJ6_stringSize_0f7a4_44 : decode cJ6_stringSize_0f7a4 44 = .ok (.iload_n 1, 1) := by decide +kernel
theorem dJ6_stringSize_0f7a4_45 : decode cJ6_stringSize_0f7a4 45 = .ok (.iadd, 1) := by decide +kernel
theorem dJ6_stringSize_0f7a4_46 : decode cJ6_stringSize_0f7a4 46 = .ok (.ireturn, 1) := by decide +kernel
theorem dJ9_max_7cf53_0 : decode cJ9_max_7cf53 0 = .ok (.iload_n 0, 1) := by decide +kernel
theorem dJ9_max_7cf53_1 : decode cJ9_max_7cf53 1 = .ok (.iload_n 1, 1) := by decide +kernel
theorem dJ9_max_7cf53_2 : decode cJ9_max_7cf53 2 = .ok (.if_icmp .lt 7, 3) := by decide +kernel
theorem dJ9_max_7cf53_5 : decode cJ9_max_7cf53 5 = .ok (.iload_n 0, 1) := by decide +kernel
theorem dJ9_max_7cf53_6 : decode cJ9_max_7cf53 6 = .ok (.goto 4, 3) := by decide +kernel
theorem dJ9_max_7cf53_9 : decode cJ9_max_7cf53 9 = .ok (.iload_n 1, 1) := by decide +kernel
theorem dJ9_max_7cf53_10 : decode cJ9_max_7cf53 10 = .ok (.ireturn, 1) := by decide +kernel
theorem dJ9_min_7cf53_0 : decode cJ9_min_7cf53 0 = .ok (.iload_n 0, 1) := by decide +kernel
theorem dJ9_min_7cf53_1 : decode cJ9_min_7cf53 1 = .ok (.iload_n 1, 1) := by decide +kernel
theorem dJ9_min_7cf53_2 : decode cJ9_min_7cf53 2 = .ok (.if_icmp .gt 7, 3) := by decide +kernel
theorem dJ9_min_7cf53_5 : decode cJ9_min_7cf53 5 = .ok (.iload_n 0, 1) := by decide +kernel
theorem dJ9_min_7cf53_6 : decode cJ9_min_7cf53 6 = .ok (.goto 4, 3) := by decide +kernel
theorem dJ9_min_7cf53_9 : decode cJ9_min_7cf53 9 = .ok (.iload_n 1, 1) := by decide +kernel
theorem dJ9_min_7cf53_10 : decode cJ9_min_7cf53 10 = .ok (.ireturn, 1) := by decide +kernel
theorem dJ0_init_81219_0 : decode cJ0_init_81219 0 = .ok (.aload_n 0, 1) := by decide +kernel
theorem dJ0_init_81219_1 : decode cJ0_init_81219 1 = .ok (.aload_n 1, 1) := by decide +kernel
theorem dJ0_init_81219_2 : decode cJ0_init_81219 2 = .ok (.aconst_null, 1) := by decide +kernel
theorem dJ0_init_81219_3 : decode cJ0_init_81219 3 = .ok (.invokespecial 489, 3) := by decide +kernel
theorem dJ0_init_81219_6 : decode cJ0_init_81219 6 = .ok (.return_, 1) := by decide +kernel
theorem dJ0_length_8abf5_0 : decode cJ0_length_8abf5 0 = .ok (.aload_n 0, 1) := by decide +kernel
theorem dJ0_length_8abf5_1 : decode cJ0_length_8abf5 1 = .ok (.getfield 9, 3) := by decide +kernel
theorem dJ0_length_8abf5_4 : decode cJ0_length_8abf5 4 = .ok (.arraylength, 1) := by decide +kernel
theorem dJ0_length_8abf5_5 : decode cJ0_length_8abf5 5 = .ok (.aload_n 0, 1) := by decide +kernel
theorem dJ0_length_8abf5_6 : decode cJ0_length_8abf5 6 = .ok (.invokevirtual 335, 3) := by decide +kernel
theorem dJ0_length_8abf5_9 : decode cJ0_length_8abf5 9 = .ok (.ishr, 1) := by decide +kernel
theorem dJ0_length_8abf5_10 : decode cJ0_length_8abf5 10 = .ok (.ireturn, 1) := by decide +kernel
theorem dJ0_charAt_5068e_0 : decode cJ0_charAt_5068e 0 = .ok (.aload_n 0, 1) := by decide +kernel
theorem dJ0_charAt_5068e_1 : decode cJ0_charAt_5068e 1 = .ok (.invokevirtual 492, 3) := by decide +kernel
theorem dJ0_charAt_5068e_4 : decode cJ0_charAt_5068e 4 = .ok (.ifCond .eq 12, 3) := by decide +kernel
theorem dJ0_charAt_5068e_7 : decode cJ0_charAt_5068e 7 = .ok (.aload_n 0, 1) := by decide +kernel
theorem dJ0_charAt_5068e_8 : decode cJ0_charAt_5068e 8 = .ok (.getfield 9, 3) := by decide +kernel
theorem dJ0_charAt_5068e_11 : decode cJ0_charAt_5068e 11 = .ok (.iload_n 1, 1) := by decide +kernel
theorem dJ0_charAt_5068e_12 : decode cJ0_charAt_5068e 12 = .ok (.invokestatic 495, 3) := by decide +kernel
theorem dJ0_charAt_5068e_15 : decode cJ0_charAt_5068e 15 = .ok (.ireturn, 1) := by decide +kernel
theorem dJ0_charAt_5068e_16 : decode cJ0_charAt_5068e 16 = .ok (.aload_n 0, 1) := by decide +kernel
theorem dJ0_charAt_5068e_17 : decode cJ0_charAt_5068e 17 = .ok (.getfield 9, 3) := by decide +kernel
theorem dJ0_charAt_5068e_20 : decode cJ0_charAt_5068e 20 = .ok (.iload_n 1, 1) := by decide +kernel
theorem dJ0_charAt_5068e_21 : decode cJ0_charAt_5068e 21 = .ok (.invokestatic 498, 3) := by decide +kernel
theorem dJ0_charAt_5068e_24 : decode cJ0_charAt_5068e 24 = .ok (.ireturn, 1) := by decide +kernel
theorem dJ0_getBytes_840e7_0 : decode cJ0_getBytes_840e7 0 = .ok (.aload_n 0, 1) := by decide +kernel
theorem dJ0_getBytes_840e7_1 : decode cJ0_getBytes_840e7 1 = .ok (.invokevirtual 335, 3) := by decide +kernel
theorem dJ0_getBytes_840e7_4 : decode cJ0_getBytes_840e7 4 = .ok (.iload_n 3, 1) := by decide +kernel
theorem dJ0_getBytes_840e7_5 : decode cJ0_getBytes_840e7 5 = .ok (.if_icmp .ne 23, 3) := by decide +kernel
theorem dJ0_getBytes_840e7_8 : decode cJ0_getBytes_840e7 8 = .ok (.aload_n 0, 1) := by decide +kernel
theorem dJ0_getBytes_840e7_9 : decode cJ0_getBytes_840e7 9 = .ok (.getfield 9, 3) := by decide +kernel
theorem dJ0_getBytes_840e7_12 : decode cJ0_getBytes_840e7 12 = .ok (.iconst 0, 1) := by decide +kernel
theorem dJ0_getBytes_840e7_13 : decode cJ0_getBytes_840e7 13 = .ok (.aload_n 1, 1) := by decide +kernel
theorem dJ0_getBytes_840e7_14 : decode cJ0_getBytes_840e7 14 = .ok (.iload_n 2, 1) := by decide +kernel
theorem dJ0_getBytes_840e7_15 : decode cJ0_getBytes_840e7 15 = .ok (.iload_n 3, 1) := by decide +kernel
theorem dJ0_getBytes_840e7_16 : decode cJ0_getBytes_840e7 16 = .ok (.ishl, 1) := by decide +kernel
theorem dJ0_getBytes_840e7_17 : decode cJ0_getBytes_840e7 17 = .ok (.aload_n 0, 1) := by decide +kernel
theorem dJ0_getBytes_840e7_18 : decode cJ0_getBytes_840e7 18 = .ok (.getfield 9, 3) := by decide +kernel
theorem dJ0_getBytes_840e7_21 : decode cJ0_getBytes_840e7 21 = .ok (.arraylength, 1) := by decide +kernel
theorem dJ0_getBytes_840e7_22 : decode cJ0_getBytes_840e7 22 = .ok (.invokestatic 212, 3) := by decide +kernel
theorem dJ0_getBytes_840e7_25 : decode cJ0_getBytes_840e7 25 = .ok (.goto 18, 3) := by decide +kernel
theorem dJ0_getBytes_840e7_28 : decode cJ0_getBytes_840e7 28 = .ok (.aload_n 0, 1) := by decide +kernel
theorem dJ0_getBytes_840e7_29 : decode cJ0_getBytes_840e7 29 = .ok (.getfield 9, 3) := by decide +kernel
theorem dJ0_getBytes_840e7_32 : decode cJ0_getBytes_840e7 32 = .ok (.iconst 0, 1) := by decide +kernel
theorem dJ0_getBytes_840e7_33 : decode cJ0_getBytes_840e7 33 = .ok (.aload_n 1, 1) := by decide +kernel
theorem dJ0_getBytes_840e7_34 : decode cJ0_getBytes_840e7 34 = .ok (.iload_n 2, 1) := by decide +kernel
theorem dJ0_getBytes_840e7_35 : decode cJ0_getBytes_840e7 35 = .ok (.aload_n 0, 1) := by decide +kernel
theorem dJ0_getBytes_840e7_36 : decode cJ0_getBytes_840e7 36 = .ok (.getfield 9, 3) := by decide +kernel
theorem dJ0_getBytes_840e7_39 : decode cJ0_getBytes_840e7 39 = .ok (.arraylength, 1) := by decide +kernel
theorem dJ0_getBytes_840e7_40 : decode cJ0_getBytes_840e7 40 = .ok (.invokestatic 106, 3) := by decide +kernel
theorem dJ0_getBytes_840e7_43 : decode cJ0_getBytes_840e7 43 = .ok (.return_, 1) := by decide +kernel
theorem dJ0_init_db425_0 : decode cJ0_init_db425 0 = .ok (.aload_n 0, 1) := by decide +kernel
theorem dJ0_init_db425_1 : decode cJ0_init_db425 1 = .ok (.invokespecial 1, 3) := by decide +kernel
theorem dJ0_init_db425_4 : decode cJ0_init_db425 4 = .ok (.aload_n 1, 1) := by decide +kernel
theorem dJ0_init_db425_5 : decode cJ0_init_db425 5 = .ok (.invokevirtual 552, 3) := by decide +kernel
theorem dJ0_init_db425_8 : decode cJ0_init_db425 8 = .ok (.astore_n 3, 1) := by decide +kernel
theorem dJ0_init_db425_9 : decode cJ0_init_db425 9 = .ok (.aload_n 1, 1) := by decide +kernel
theorem dJ0_init_db425_10 : decode cJ0_init_db425 10 = .ok (.invokevirtual 549, 3) := by decide +kernel
theorem dJ0_init_db425_13 : decode cJ0_init_db425 13 = .ok (.istore 4, 2) := by decide +kernel
theorem dJ0_init_db425_15 : decode cJ0_init_db425 15 = .ok (.aload_n 1, 1) := by decide +kernel
theorem dJ0_init_db425_16 : decode cJ0_init_db425 16 = .ok (.invokevirtual 1047, 3) := by decide +kernel
theorem dJ0_init_db425_19 : decode cJ0_init_db425 19 = .ok (.ifCond .eq 22, 3) := by decide +kernel
theorem dJ0_init_db425_22 : decode cJ0_init_db425 22 = .ok (.aload_n 0, 1) := by decide +kernel
theorem dJ0_init_db425_23 : decode cJ0_init_db425 23 = .ok (.iconst 0, 1) := by decide +kernel
theorem dJ0_init_db425_24 : decode cJ0_init_db425 24 = .ok (.putfield 15, 3) := by decide +kernel
theorem dJ0_init_db425_27 : decode cJ0_init_db425 27 = .ok (.aload_n 0, 1) := by decide +kernel
theorem dJ0_init_db425_28 : decode cJ0_init_db425 28 = .ok (.aload_n 3, 1) := by decide +kernel
theorem dJ0_init_db425_29 : decode cJ0_init_db425 29 = .ok (.iconst 0, 1) := by decide +kernel
theorem dJ0_init_db425_30 : decode cJ0_init_db425 30 = .ok (.iload 4, 2) := by decide +kernel
theorem dJ0_init_db425_32 : decode cJ0_init_db425 32 = .ok (.invokestatic 54, 3) := by decide +kernel
theorem dJ0_init_db425_35 : decode cJ0_init_db425 35 = .ok (.putfield 9, 3) := by decide +kernel
theorem dJ0_init_db425_38 : decode cJ0_init_db425 38 = .ok (.goto 59, 3) := by decide +kernel
theorem dJ0_init_db425_41 : decode cJ0_init_db425 41 = .ok (.getstatic 38, 3) := by decide +kernel
theorem dJ0_init_db425_44 : decode cJ0_init_db425 44 = .ok (.ifCond .eq 35, 3) := by decide +kernel
theorem dJ0_init_db425_47 : decode cJ0_init_db425 47 = .ok (.aload_n 1, 1) := by decide +kernel
theorem dJ0_init_db425_48 : decode cJ0_init_db425 48 = .ok (.getfield 1048, 3) := by decide +kernel
theorem dJ0_init_db425_51 : decode cJ0_init_db425 51 = .ok (.ifCond .eq 28, 3) := by decide +kernel
theorem dJ0_init_db425_54 : decode cJ0_init_db425 54 = .ok (.aload_n 0, 1) := by decide +kernel
theorem dJ0_init_db425_55 : decode cJ0_init_db425 55 = .ok (.aload_n 3, 1) := by decide +kernel
theorem dJ0_init_db425_56 : decode cJ0_init_db425 56 = .ok (.iconst 0, 1) := by decide +kernel
theorem dJ0_init_db425_57 : decode cJ0_init_db425 57 = .ok (.iload 4, 2) := by decide +kernel
theorem dJ0_init_db425_59 : decode cJ0_init_db425 59 = .ok (.invokestatic 1051, 3) := by decide +kernel
theorem dJ0_init_db425_62 : decode cJ0_init_db425 62 = .ok (.putfield 9, 3) := by decide +kernel
theorem dJ0_init_db425_65 : decode cJ0_init_db425 65 = .ok (.aload_n 0, 1) := by decide +kernel
theorem dJ0_init_db425_66 : decode cJ0_init_db425 66 = .ok (.aload_n 0, 1) := by decide +kernel
theorem dJ0_init_db425_67 : decode cJ0_init_db425 67 = .ok (.getfield 9, 3) := by decide +kernel
theorem dJ0_init_db425_70 : decode cJ0_init_db425 70 = .ok (.iload 4, 2) := by decide +kernel
theorem dJ0_init_db425_72 : decode cJ0_init_db425 72 = .ok (.invokestatic 47, 3) := by decide +kernel
theorem dJ0_init_db425_75 : decode cJ0_init_db425 75 = .ok (.putfield 15, 3) := by decide +kernel
theorem dJ0_init_db425_78 : decode cJ0_init_db425 78 = .ok (.return_, 1) := by decide +kernel
theorem dJ0_init_db425_79 : decode cJ0_init_db425 79 = .ok (.aload_n 0, 1) := by decide +kernel
theorem dJ0_init_db425_80 : decode cJ0_init_db425 80 = .ok (.iconst 1, 1) := by decide +kernel
theorem dJ0_init_db425_81 : decode cJ0_init_db425 81 = .ok (.putfield 15, 3) := by decide +kernel
theorem dJ0_init_db425_84 : decode cJ0_init_db425 84 = .ok (.aload_n 0, 1) := by decide +kernel
theorem dJ0_init_db425_85 : decode cJ0_init_db425 85 = .ok (.aload_n 3, 1) := by decide +kernel
theorem dJ0_init_db425_86 : decode cJ0_init_db425 86 = .ok (.iconst 0, 1) := by decide +kernel
theorem dJ0_init_db425_87 : decode cJ0_init_db425 87 = .ok (.iload 4, 2) := by decide +kernel
theorem dJ0_init_db425_89 : decode cJ0_init_db425 89 = .ok (.iconst 1, 1) := by decide +kernel
theorem dJ0_init_db425_90 : decode cJ0_init_db425 90 = .ok (.ishl, 1) := by decide +kernel
theorem dJ0_init_db425_91 : decode cJ0_init_db425 91 = .ok (.invokestatic 54, 3) := by decide +kernel
theorem dJ0_init_db425_94 : decode cJ0_init_db425 94 = .ok (.putfield 9, 3) := by decide +kernel
theorem dJ0_init_db425_97 : decode cJ0_init_db425 97 = .ok (.return_, 1) := by decide +kernel
theorem dJ0_coder_7d493_0 : decode cJ0_coder_7d493 0 = .ok (.getstatic 38, 3) := by decide +kernel
theorem dJ0_coder_7d493_3 : decode cJ0_coder_7d493 3 = .ok (.ifCond .eq 10, 3) := by decide +kernel
theorem dJ0_coder_7d493_6 : decode cJ0_coder_7d493 6 = .ok (.aload_n 0, 1) := by decide +kernel
theorem dJ0_coder_7d493_7 : decode cJ0_coder_7d493 7 = .ok (.getfield 15, 3) := by decide +kernel
theorem dJ0_coder_7d493_10 : decode cJ0_coder_7d493 10 = .ok (.goto 4, 3) := by decide +kernel
theorem dJ0_coder_7d493_13 : decode cJ0_coder_7d493 13 = .ok (.iconst 1, 1) := by decide +kernel
theorem dJ0_coder_7d493_14 : decode cJ0_coder_7d493 14 = .ok (.ireturn, 1) := by decide +kernel
theorem dJ0_isLatin1_aae02_0 : decode cJ0_isLatin1_aae02 0 = .ok (.getstatic 38, 3) := by decide +kernel
theorem dJ0_isLatin1_aae02_3 : decode cJ0_isLatin1_aae02 3 = .ok (.ifCond .eq 14, 3) := by decide +kernel
theorem dJ0_isLatin1_aae02_6 : decode cJ0_isLatin1_aae02 6 = .ok (.aload_n 0, 1) := by decide +kernel
theorem dJ0_isLatin1_aae02_7 : decode cJ0_isLatin1_aae02 7 = .ok (.getfield 15, 3) := by decide +kernel
theorem dJ0_isLatin1_aae02_10 : decode cJ0_isLatin1_aae02 10 = .ok (.ifCond .ne 7, 3) := by decide +kernel
theorem dJ0_isLatin1_aae02_13 : decode cJ0_isLatin1_aae02 13 = .ok (.iconst 1, 1) := by decide +kernel
theorem dJ0_isLatin1_aae02_14 : decode cJ0_isLatin1_aae02 14 = .ok (.goto 4, 3) := by decide +kernel
theorem dJ0_isLatin1_aae02_17 : decode cJ0_isLatin1_aae02 17 = .ok (.iconst 0, 1) := by decide +kernel
theorem dJ0_isLatin1_aae02_18 : decode cJ0_isLatin1_aae02 18 = .ok (.ireturn, 1) := by decide +kernel
theorem dJ0_checkIndex_df160_0 : decode cJ0_checkIndex_df160 0 = .ok (.iload_n 0, 1) := by decide +kernel
theorem dJ0_checkIndex_df160_1 : decode cJ0_checkIndex_df160 1 = .ok (.iload_n 1, 1) := by decide +kernel
theorem dJ0_checkIndex_df160_2 : decode cJ0_checkIndex_df160 2 = .ok (.getstatic 1053, 3) := by decide +kernel
theorem dJ0_checkIndex_df160_5 : decode cJ0_checkIndex_df160 5 = .ok (.invokestatic 1059, 3) := by decide +kernel
theorem dJ0_checkIndex_df160_8 : decode cJ0_checkIndex_df160 8 = .ok (.pop, 1) := by decide +kernel
theorem dJ0_checkIndex_df160_9 : decode cJ0_checkIndex_df160 9 = .ok (.return_, 1) := by decide +kernel
theorem dJ0_checkBoundsOffCount_cabcc_0 : decode cJ0_checkBoundsOffCount_cabcc 0 = .ok (.iload_n 0, 1) := by decide +kernel
theorem dJ0_checkBoundsOffCount_cabcc_1 : decode cJ0_checkBoundsOffCount_cabcc 1 = .ok (.iload_n 1, 1) := by decide +kernel
theorem dJ0_checkBoundsOffCount_cabcc_2 : decode cJ0_checkBoundsOffCount_cabcc 2 = .ok (.iload_n 2, 1) := by decide +kernel
theorem dJ0_checkBoundsOffCount_cabcc_3 : decode cJ0_checkBoundsOffCount_cabcc 3 = .ok (.getstatic 1053, 3) := by decide +kernel
theorem dJ0_checkBoundsOffCount_cabcc_6 : decode cJ0_checkBoundsOffCount_cabcc 6 = .ok (.invokestatic 1065, 3) := by decide +kernel
theorem dJ0_checkBoundsOffCount_cabcc_9 : decode cJ0_checkBoundsOffCount_cabcc 9 = .ok (.ireturn, 1) := by decide +kernel
theorem dJ0_checkBoundsBeginEnd_23922_0 : decode cJ0_checkBoundsBeginEnd_23922 0 = .ok (.iload_n 0, 1) := by decide +kernel
theorem dJ0_checkBoundsBeginEnd_23922_1 : decode cJ0_checkBoundsBeginEnd_23922 1 = .ok (.iload_n 1, 1) := by decide +kernel
theorem dJ0_checkBoundsBeginEnd_23922_2 : decode cJ0_checkBoundsBeginEnd_23922 2 = .ok (.iload_n 2, 1) := by decide +kernel
theorem dJ0_checkBoundsBeginEnd_23922_3 : decode cJ0_checkBoundsBeginEnd_23922 3 = .ok (.getstatic 1053, 3) := by decide +kernel
theorem dJ0_checkBoundsBeginEnd_23922_6 : decode cJ0_checkBoundsBeginEnd_23922 6 = .ok (.invokestatic 1062, 3) := by decide +kernel
theorem dJ0_checkBoundsBeginEnd_23922_9 : decode cJ0_checkBoundsBeginEnd_23922 9 = .ok (.pop, 1) := by decide +kernel
theorem dJ0_checkBoundsBeginEnd_23922_10 : decode cJ0_checkBoundsBeginEnd_23922 10 = .ok (.return_, 1) := by decide +kernel
theorem dJ4_init_da8c8_0 : decode cJ4_init_da8c8 0 = .ok (.aload_n 0, 1) := by decide +kernel
theorem dJ4_init_da8c8_1 : decode cJ4_init_da8c8 1 = .ok (.bipush 16, 2) := by decide +kernel
theorem dJ4_init_da8c8_3 : decode cJ4_init_da8c8 3 = .ok (.invokespecial 1, 3) := by decide +kernel
theorem dJ4_init_da8c8_6 : decode cJ4_init_da8c8 6 = .ok (.return_, 1) := by decide +kernel
theorem dJ4_append_15ec4_0 : decode cJ4_append_15ec4 0 = .ok (.aload_n 0, 1) := by decide +kernel
theorem dJ4_append_15ec4_1 : decode cJ4_append_15ec4 1 = .ok (.aload_n 1, 1) := by decide +kernel
theorem dJ4_append_15ec4_2 : decode cJ4_append_15ec4 2 = .ok (.invokespecial 29, 3) := by decide +kernel
theorem dJ4_append_15ec4_5 : decode cJ4_append_15ec4 5 = .ok (.pop, 1) := by decide +kernel
theorem dJ4_append_15ec4_6 : decode cJ4_append_15ec4 6 = .ok (.aload_n 0, 1) := by decide +kernel
theorem dJ4_append_15ec4_7 : decode cJ4_append_15ec4 7 = .ok (.areturn, 1) := by decide +kernel
theorem dJ4_append_cf468_0 : decode cJ4_append_cf468 0 = .ok (.aload_n 0, 1) := by decide +kernel
theorem dJ4_append_cf468_1 : decode cJ4_append_cf468 1 = .ok (.iload_n 1, 1) := by decide +kernel
theorem dJ4_append_cf468_2 : decode cJ4_append_cf468 2 = .ok (.invokespecial 50, 3) := by decide +kernel
theorem dJ4_append_cf468_5 : decode cJ4_append_cf468 5 = .ok (.pop, 1) := by decide +kernel
theorem dJ4_append_cf468_6 : decode cJ4_append_cf468 6 = .ok (.aload_n 0, 1) := by decide +kernel
theorem dJ4_append_cf468_7 : decode cJ4_append_cf468 7 = .ok (.areturn, 1) := by decide +kernel
theorem dJ4_append_bf812_0 : decode cJ4_append_bf812 0 = .ok (.aload_n 0, 1) := by decide +kernel
theorem dJ4_append_bf812_1 : decode cJ4_append_bf812 1 = .ok (.iload_n 1, 1) := by decide +kernel
theorem dJ4_append_bf812_2 : decode cJ4_append_bf812 2 = .ok (.invokespecial 53, 3) := by decide +kernel
theorem dJ4_append_bf812_5 : decode cJ4_append_bf812 5 = .ok (.pop, 1) := by decide +kernel
theorem dJ4_append_bf812_6 : decode cJ4_append_bf812 6 = .ok (.aload_n 0, 1) := by decide +kernel
theorem dJ4_append_bf812_7 : decode cJ4_append_bf812 7 = .ok (.areturn, 1) := by decide +kernel
theorem dJ4_toString_0e30d_0 : decode cJ4_toString_0e30d 0 = .ok (.new 18, 3) := by decide +kernel
theorem dJ4_toString_0e30d_3 : decode cJ4_toString_0e30d 3 = .ok (.dup, 1) := by decide +kernel
theorem dJ4_toString_0e30d_4 : decode cJ4_toString_0e30d 4 = .ok (.aload_n 0, 1) := by decide +kernel
theorem dJ4_toString_0e30d_5 : decode cJ4_toString_0e30d 5 = .ok (.invokespecial 137, 3) := by decide +kernel
theorem dJ4_toString_0e30d_8 : decode cJ4_toString_0e30d 8 = .ok (.areturn, 1) := by decide +kernel
theorem dJ4_charAt_5068e_0 : decode cJ4_charAt_5068e 0 = .ok (.aload_n 0, 1) := by decide +kernel
theorem dJ4_charAt_5068e_1 : decode cJ4_charAt_5068e 1 = .ok (.iload_n 1, 1) := by decide +kernel
theorem dJ4_charAt_5068e_2 : decode cJ4_charAt_5068e 2 = .ok (.invokespecial 329, 3) := by decide +kernel
theorem dJ4_charAt_5068e_5 : decode cJ4_charAt_5068e 5 = .ok (.ireturn, 1) := by decide +kernel
theorem dJ4_setLength_d00df_0 : decode cJ4_setLength_d00df 0 = .ok (.aload_n 0, 1) := by decide +kernel
theorem dJ4_setLength_d00df_1 : decode cJ4_setLength_d00df 1 = .ok (.iload_n 1, 1) := by decide +kernel
theorem dJ4_setLength_d00df_2 : decode cJ4_setLength_d00df 2 = .ok (.invokespecial 333, 3) := by decide +kernel
theorem dJ4_setLength_d00df_5 : decode cJ4_setLength_d00df 5 = .ok (.return_, 1) := by decide +kernel
theorem dJ4_length_8abf5_0 : decode cJ4_length_8abf5 0 = .ok (.aload_n 0, 1) := by decide +kernel
theorem dJ4_length_8abf5_1 : decode cJ4_length_8abf5 1 = .ok (.invokespecial 343, 3) := by decide +kernel
theorem dJ4_length_8abf5_4 : decode cJ4_length_8abf5 4 = .ok (.ireturn, 1) := by decide +kernel
theorem dJx7c733_init_d00df_0 : decode cJx7c733_init_d00df 0 = .ok (.aload_n 0, 1) := by decide +kernel
theorem dJx7c733_init_d00df_1 : decode cJx7c733_init_d00df 1 = .ok (.new 10, 3) := by decide +kernel
theorem dJx7c733_init_d00df_4 : decode cJx7c733_init_d00df 4 = .ok (.dup, 1) := by decide +kernel
theorem dJx7c733_init_d00df_5 : decode cJx7c733_init_d00df 5 = .ok (.invokespecial 12, 3) := by decide +kernel
theorem dJx7c733_init_d00df_8 : decode cJx7c733_init_d00df 8 = .ok (.ldc 13, 2) := by decide +kernel
theorem dJx7c733_init_d00df_10 : decode cJx7c733_init_d00df 10 = .ok (.invokevirtual 15, 3) := by decide +kernel
theorem dJx7c733_init_d00df_13 : decode cJx7c733_init_d00df 13 = .ok (.iload_n 1, 1) := by decide +kernel
theorem dJx7c733_init_d00df_14 : decode cJx7c733_init_d00df 14 = .ok (.invokevirtual 19, 3) := by decide +kernel
theorem dJx7c733_init_d00df_17 : decode cJx7c733_init_d00df 17 = .ok (.invokevirtual 22, 3) := by decide +kernel
theorem dJx7c733_init_d00df_20 : decode cJx7c733_init_d00df 20 = .ok (.invokespecial 7, 3) := by decide +kernel
theorem dJx7c733_init_d00df_23 : decode cJx7c733_init_d00df 23 = .ok (.return_, 1) := by decide +kernel
theorem dJ1_charAt_3b067_0 : decode cJ1_charAt_3b067 0 = .ok (.iload_n 1, 1) := by decide +kernel
theorem dJ1_charAt_3b067_1 : decode cJ1_charAt_3b067 1 = .ok (.aload_n 0, 1) := by decide +kernel
theorem dJ1_charAt_3b067_2 : decode cJ1_charAt_3b067 2 = .ok (.arraylength, 1) := by decide +kernel
theorem dJ1_charAt_3b067_3 : decode cJ1_charAt_3b067 3 = .ok (.invokestatic 9, 3) := by decide +kernel
theorem dJ1_charAt_3b067_6 : decode cJ1_charAt_3b067 6 = .ok (.aload_n 0, 1) := by decide +kernel
theorem dJ1_charAt_3b067_7 : decode cJ1_charAt_3b067 7 = .ok (.iload_n 1, 1) := by decide +kernel
theorem dJ1_charAt_3b067_8 : decode cJ1_charAt_3b067 8 = .ok (.baload, 1) := by decide +kernel
theorem dJ1_charAt_3b067_9 : decode cJ1_charAt_3b067 9 = .ok (.sipush 255, 3) := by decide +kernel
theorem dJ1_charAt_3b067_12 : decode cJ1_charAt_3b067 12 = .ok (.iand, 1) := by decide +kernel
theorem dJ1_charAt_3b067_13 : decode cJ1_charAt_3b067 13 = .ok (.i2c, 1) := by decide +kernel
theorem dJ1_charAt_3b067_14 : decode cJ1_charAt_3b067 14 = .ok (.ireturn, 1) := by decide +kernel
theorem dJ1_canEncode_fc78d_0 : decode cJ1_canEncode_fc78d 0 = .ok (.iload_n 0, 1) := by decide +kernel
theorem dJ1_canEncode_fc78d_1 : decode cJ1_canEncode_fc78d 1 = .ok (.sipush 255, 3) := by decide +kernel
theorem dJ1_canEncode_fc78d_4 : decode cJ1_canEncode_fc78d 4 = .ok (.if_icmp .gt 7, 3) := by decide +kernel
theorem dJ1_canEncode_fc78d_7 : decode cJ1_canEncode_fc78d 7 = .ok (.iconst 1, 1) := by decide +kernel
theorem dJ1_canEncode_fc78d_8 : decode cJ1_canEncode_fc78d 8 = .ok (.goto 4, 3) := by decide +kernel
theorem dJ1_canEncode_fc78d_11 : decode cJ1_canEncode_fc78d 11 = .ok (.iconst 0, 1) := by decide +kernel
theorem dJ1_canEncode_fc78d_12 : decode cJ1_canEncode_fc78d 12 = .ok (.ireturn, 1) := by decide +kernel
theorem dJ1_fillNull_b72d1_0 : decode cJ1_fillNull_b72d1 0 = .ok (.aload_n 0, 1) := by decide +kernel
theorem dJ1_fillNull_b72d1_1 : decode cJ1_fillNull_b72d1 1 = .ok (.iload_n 1, 1) := by decide +kernel
theorem dJ1_fillNull_b72d1_2 : decode cJ1_fillNull_b72d1 2 = .ok (.iload_n 2, 1) := by decide +kernel
theorem dJ1_fillNull_b72d1_3 : decode cJ1_fillNull_b72d1 3 = .ok (.iconst 0, 1) := by decide +kernel
theorem dJ1_fillNull_b72d1_4 : decode cJ1_fillNull_b72d1 4 = .ok (.invokestatic 236, 3) := by decide +kernel
theorem dJ1_fillNull_b72d1_7 : decode cJ1_fillNull_b72d1 7 = .ok (.return_, 1) := by decide +kernel
theorem dJ1_inflate_0e8fd_0 : decode cJ1_inflate_0e8fd 0 = .ok (.aload_n 0, 1) := by decide +kernel
theorem dJ1_inflate_0e8fd_1 : decode cJ1_inflate_0e8fd 1 = .ok (.iload_n 1, 1) := by decide +kernel
theorem dJ1_inflate_0e8fd_2 : decode cJ1_inflate_0e8fd 2 = .ok (.aload_n 2, 1) := by decide +kernel
theorem dJ1_inflate_0e8fd_3 : decode cJ1_inflate_0e8fd 3 = .ok (.iload_n 3, 1) := by decide +kernel
theorem dJ1_inflate_0e8fd_4 : decode cJ1_inflate_0e8fd 4 = .ok (.iload 4, 2) := by decide +kernel
theorem dJ1_inflate_0e8fd_6 : decode cJ1_inflate_0e8fd 6 = .ok (.invokestatic 240, 3) := by decide +kernel
theorem dJ1_inflate_0e8fd_9 : decode cJ1_inflate_0e8fd 9 = .ok (.return_, 1) := by decide +kernel
theorem dJ2_newBytesFor_77867_0 : decode cJ2_newBytesFor_77867 0 = .ok (.iload_n 0, 1) := by decide +kernel
theorem dJ2_newBytesFor_77867_1 : decode cJ2_newBytesFor_77867 1 = .ok (.invokestatic 11, 3) := by decide +kernel
theorem dJ2_newBytesFor_77867_4 : decode cJ2_newBytesFor_77867 4 = .ok (.newarray .byte, 2) := by decide +kernel
theorem dJ2_newBytesFor_77867_6 : decode cJ2_newBytesFor_77867 6 = .ok (.areturn, 1) := by decide +kernel
theorem dJ2_newBytesLength_0f7a4_0 : decode cJ2_newBytesLength_0f7a4 0 = .ok (.iload_n 0, 1) := by decide +kernel
theorem dJ2_newBytesLength_0f7a4_1 : decode cJ2_newBytesLength_0f7a4 1 = .ok (.ifCond .ge 11, 3) := by decide +kernel
theorem dJ2_newBytesLength_0f7a4_4 : decode cJ2_newBytesLength_0f7a4 4 = .ok (.new 17, 3) := by decide +kernel
theorem dJ2_newBytesLength_0f7a4_7 : decode cJ2_newBytesLength_0f7a4 7 = .ok (.dup, 1) := by decide +kernel
theorem dJ2_newBytesLength_0f7a4_8 : decode cJ2_newBytesLength_0f7a4 8 = .ok (.invokespecial 19, 3) := by decide +kernel
theorem dJ2_newBytesLength_0f7a4_11 : decode cJ2_newBytesLength_0f7a4 11 = .ok (.athrow, 1) := by decide +kernel
theorem dJ2_newBytesLength_0f7a4_12 : decode cJ2_newBytesLength_0f7a4 12 = .ok (.iload_n 0, 1) := by decide +kernel
theorem dJ2_newBytesLength_0f7a4_13 : decode cJ2_newBytesLength_0f7a4 13 = .ok (.ldc 20, 2) := by decide +kernel
theorem dJ2_newBytesLength_0f7a4_15 : decode cJ2_newBytesLength_0f7a4 15 = .ok (.if_icmp .lt 40, 3) := by decide +kernel
theorem dJ2_newBytesLength_0f7a4_18 : decode cJ2_newBytesLength_0f7a4 18 = .ok (.new 21, 3) := by decide +kernel
theorem dJ2_newBytesLength_0f7a4_21 : decode cJ2_newBytesLength_0f7a4 21 = .ok (.dup, 1) := by decide +kernel
theorem dJ2_newBytesLength_0f7a4_22 : decode cJ2_newBytesLength_0f7a4 22 = .ok (.new 23, 3) := by decide +kernel
theorem dJ2_newBytesLength_0f7a4_25 : decode cJ2_newBytesLength_0f7a4 25 = .ok (.dup, 1) := by decide +kernel
theorem dJ2_newBytesLength_0f7a4_26 : decode cJ2_newBytesLength_0f7a4 26 = .ok (.invokespecial 25, 3) := by decide +kernel
theorem dJ2_newBytesLength_0f7a4_29 : decode cJ2_newBytesLength_0f7a4 29 = .ok (.ldc 26, 2) := by decide +kernel
theorem dJ2_newBytesLength_0f7a4_31 : decode cJ2_newBytesLength_0f7a4 31 = .ok (.invokevirtual 28, 3) := by decide +kernel
theorem dJ2_newBytesLength_0f7a4_34 : decode cJ2_newBytesLength_0f7a4 34 = .ok (.iload_n 0, 1) := by decide +kernel
theorem dJ2_newBytesLength_0f7a4_35 : decode cJ2_newBytesLength_0f7a4 35 = .ok (.invokevirtual 32, 3) := by decide +kernel
theorem dJ2_newBytesLength_0f7a4_38 : decode cJ2_newBytesLength_0f7a4 38 = .ok (.ldc 35, 2) := by decide +kernel
theorem dJ2_newBytesLength_0f7a4_40 : decode cJ2_newBytesLength_0f7a4 40 = .ok (.invokevirtual 28, 3) := by decide +kernel
theorem dJ2_newBytesLength_0f7a4_43 : decode cJ2_newBytesLength_0f7a4 43 = .ok (.ldc 20, 2) := by decide +kernel
theorem dJ2_newBytesLength_0f7a4_45 : decode cJ2_newBytesLength_0f7a4 45 = .ok (.invokevirtual 32, 3) := by decide +kernel
theorem dJ2_newBytesLength_0f7a4_48 : decode cJ2_newBytesLength_0f7a4 48 = .ok (.invokevirtual 37, 3) := by decide +kernel
theorem dJ2_newBytesLength_0f7a4_51 : decode cJ2_newBytesLength_0f7a4 51 = .ok (.invokespecial 41, 3) := by decide +kernel
theorem dJ2_newBytesLength_0f7a4_54 : decode cJ2_newBytesLength_0f7a4 54 = .ok (.athrow, 1) := by decide +kernel
theorem dJ2_newBytesLength_0f7a4_55 : decode cJ2_newBytesLength_0f7a4 55 = .ok (.iload_n 0, 1) := by decide +kernel
theorem dJ2_newBytesLength_0f7a4_56 : decode cJ2_newBytesLength_0f7a4 56 = .ok (.iconst 1, 1) := by decide +kernel
theorem dJ2_newBytesLength_0f7a4_57 : decode cJ2_newBytesLength_0f7a4 57 = .ok (.ishl, 1) := by decide +kernel
theorem dJ2_newBytesLength_0f7a4_58 : decode cJ2_newBytesLength_0f7a4 58 = .ok (.ireturn, 1) := by decide +kernel
theorem dJ2_putChar_b72d1_0 : decode cJ2_putChar_b72d1 0 = .ok (.getstatic 44, 3) := by decide +kernel
theorem dJ2_putChar_b72d1_3 : decode cJ2_putChar_b72d1 3 = .ok (.ifCond .ne 25, 3) := by decide +kernel
theorem dJ2_putChar_b72d1_6 : decode cJ2_putChar_b72d1 6 = .ok (.iload_n 1, 1) := by decide +kernel
theorem dJ2_putChar_b72d1_7 : decode cJ2_putChar_b72d1 7 = .ok (.ifCond .lt 11, 3) := by decide +kernel
theorem dJ2_putChar_b72d1_10 : decode cJ2_putChar_b72d1 10 = .ok (.iload_n 1, 1) := by decide +kernel
theorem dJ2_putChar_b72d1_11 : decode cJ2_putChar_b72d1 11 = .ok (.aload_n 0, 1) := by decide +kernel
theorem dJ2_putChar_b72d1_12 : decode cJ2_putChar_b72d1 12 = .ok (.invokestatic 48, 3) := by decide +kernel
theorem dJ2_putChar_b72d1_15 : decode cJ2_putChar_b72d1 15 = .ok (.if_icmp .lt 13, 3) := by decide +kernel
theorem dJ2_putChar_b72d1_18 : decode cJ2_putChar_b72d1 18 = .ok (.new 52, 3) := by decide +kernel
theorem dJ2_putChar_b72d1_21 : decode cJ2_putChar_b72d1 21 = .ok (.dup, 1) := by decide +kernel
theorem dJ2_putChar_b72d1_22 : decode cJ2_putChar_b72d1 22 = .ok (.ldc 54, 2) := by decide +kernel
theorem dJ2_putChar_b72d1_24 : decode cJ2_putChar_b72d1 24 = .ok (.invokespecial 56, 3) := by decide +kernel
theorem dJ2_putChar_b72d1_27 : decode cJ2_putChar_b72d1 27 = .ok (.athrow, 1) := by decide +kernel
theorem dJ2_putChar_b72d1_28 : decode cJ2_putChar_b72d1 28 = .ok (.iload_n 1, 1) := by decide +kernel
theorem dJ2_putChar_b72d1_29 : decode cJ2_putChar_b72d1 29 = .ok (.iconst 1, 1) := by decide +kernel
theorem dJ2_putChar_b72d1_30 : decode cJ2_putChar_b72d1 30 = .ok (.ishl, 1) := by decide +kernel
theorem dJ2_putChar_b72d1_31 : decode cJ2_putChar_b72d1 31 = .ok (.istore_n 1, 1) := by decide +kernel
theorem dJ2_putChar_b72d1_32 : decode cJ2_putChar_b72d1 32 = .ok (.aload_n 0, 1) := by decide +kernel
theorem dJ2_putChar_b72d1_33 : decode cJ2_putChar_b72d1 33 = .ok (.iload_n 1, 1) := by decide +kernel
theorem dJ2_putChar_b72d1_34 : decode cJ2_putChar_b72d1 34 = .ok (.iinc 1 1, 3) := by decide +kernel
theorem dJ2_putChar_b72d1_37 : decode cJ2_putChar_b72d1 37 = .ok (.iload_n 2, 1) := by decide +kernel
theorem dJ2_putChar_b72d1_38 : decode cJ2_putChar_b72d1 38 = .ok (.getstatic 59, 3) := by decide +kernel
theorem dJ2_putChar_b72d1_41 : decode cJ2_putChar_b72d1 41 = .ok (.ishr, 1) := by decide +kernel
theorem dJ2_putChar_b72d1_42 : decode cJ2_putChar_b72d1 42 = .ok (.i2b, 1) := by decide +kernel
theorem dJ2_putChar_b72d1_43 : decode cJ2_putChar_b72d1 43 = .ok (.bastore, 1) := by decide +kernel
theorem dJ2_putChar_b72d1_44 : decode cJ2_putChar_b72d1 44 = .ok (.aload_n 0, 1) := by decide +kernel
theorem dJ2_putChar_b72d1_45 : decode cJ2_putChar_b72d1 45 = .ok (.iload_n 1, 1) := by decide +kernel
theorem dJ2_putChar_b72d1_46 : decode cJ2_putChar_b72d1 46 = .ok (.iload_n 2, 1) := by decide +kernel
theorem dJ2_putChar_b72d1_47 : decode cJ2_putChar_b72d1 47 = .ok (.getstatic 63, 3) := by decide +kernel
theorem dJ2_putChar_b72d1_50 : decode cJ2_putChar_b72d1 50 = .ok (.ishr, 1) := by decide +kernel
theorem dJ2_putChar_b72d1_51 : decode cJ2_putChar_b72d1 51 = .ok (.i2b, 1) := by decide +kernel
theorem dJ2_putChar_b72d1_52 : decode cJ2_putChar_b72d1 52 = .ok (.bastore, 1) := by decide +kernel
theorem dJ2_putChar_b72d1_53 : decode cJ2_putChar_b72d1 53 = .ok (.return_, 1) := by decide +kernel
theorem dJ2_getChar_3b067_0 : decode cJ2_getChar_3b067 0 = .ok (.getstatic 44, 3) := by decide +kernel
theorem dJ2_getChar_3b067_3 : decode cJ2_getChar_3b067 3 = .ok (.ifCond .ne 25, 3) := by decide +kernel
theorem dJ2_getChar_3b067_6 : decode cJ2_getChar_3b067 6 = .ok (.iload_n 1, 1) := by decide +kernel
theorem dJ2_getChar_3b067_7 : decode cJ2_getChar_3b067 7 = .ok (.ifCond .lt 11, 3) := by decide +kernel
theorem dJ2_getChar_3b067_10 : decode cJ2_getChar_3b067 10 = .ok (.iload_n 1, 1) := by decide +kernel
theorem dJ2_getChar_3b067_11 : decode cJ2_getChar_3b067 11 = .ok (.aload_n 0, 1) := by decide +kernel
theorem dJ2_getChar_3b067_12 : decode cJ2_getChar_3b067 12 = .ok (.invokestatic 48, 3) := by decide +kernel
theorem dJ2_getChar_3b067_15 : decode cJ2_getChar_3b067 15 = .ok (.if_icmp .lt 13, 3) := by decide +kernel
theorem dJ2_getChar_3b067_18 : decode cJ2_getChar_3b067 18 = .ok (.new 52, 3) := by decide +kernel
theorem dJ2_getChar_3b067_21 : decode cJ2_getChar_3b067 21 = .ok (.dup, 1) := by decide +kernel
theorem dJ2_getChar_3b067_22 : decode cJ2_getChar_3b067 22 = .ok (.ldc 54, 2) := by decide +kernel
theorem dJ2_getChar_3b067_24 : decode cJ2_getChar_3b067 24 = .ok (.invokespecial 56, 3) := by decide +kernel
theorem dJ2_getChar_3b067_27 : decode cJ2_getChar_3b067 27 = .ok (.athrow, 1) := by decide +kernel
theorem dJ2_getChar_3b067_28 : decode cJ2_getChar_3b067 28 = .ok (.iload_n 1, 1) := by decide +kernel
theorem dJ2_getChar_3b067_29 : decode cJ2_getChar_3b067 29 = .ok (.iconst 1, 1) := by decide +kernel
theorem dJ2_getChar_3b067_30 : decode cJ2_getChar_3b067 30 = .ok (.ishl, 1) := by decide +kernel
theorem dJ2_getChar_3b067_31 : decode cJ2_getChar_3b067 31 = .ok (.istore_n 1, 1) := by decide +kernel
theorem dJ2_getChar_3b067_32 : decode cJ2_getChar_3b067 32 = .ok (.aload_n 0, 1) := by decide +kernel
theorem dJ2_getChar_3b067_33 : decode cJ2_getChar_3b067 33 = .ok (.iload_n 1, 1) := by decide +kernel
theorem dJ2_getChar_3b067_34 : decode cJ2_getChar_3b067 34 = .ok (.iinc 1 1, 3) := by decide +kernel
theorem dJ2_getChar_3b067_37 : decode cJ2_getChar_3b067 37 = .ok (.baload, 1) := by decide +kernel
theorem dJ2_getChar_3b067_38 : decode cJ2_getChar_3b067 38 = .ok (.sipush 255, 3) := by decide +kernel
theorem dJ2_getChar_3b067_41 : decode cJ2_getChar_3b067 41 = .ok (.iand, 1) := by decide +kernel
theorem dJ2_getChar_3b067_42 : decode cJ2_getChar_3b067 42 = .ok (.getstatic 59, 3) := by decide +kernel
theorem dJ2_getChar_3b067_45 : decode cJ2_getChar_3b067 45 = .ok (.ishl, 1) := by decide +kernel
theorem dJ2_getChar_3b067_46 : decode cJ2_getChar_3b067 46 = .ok (.aload_n 0, 1) := by decide +kernel
theorem dJ2_getChar_3b067_47 : decode cJ2_getChar_3b067 47 = .ok (.iload_n 1, 1) := by decide +kernel
theorem dJ2_getChar_3b067_48 : decode cJ2_getChar_3b067 48 = .ok (.baload, 1) := by decide +kernel
theorem dJ2_getChar_3b067_49 : decode cJ2_getChar_3b067 49 = .ok (.sipush 255, 3) := by decide +kernel
theorem dJ2_getChar_3b067_52 : decode cJ2_getChar_3b067 52 = .ok (.iand, 1) := by decide +kernel
theorem dJ2_getChar_3b067_53 : decode cJ2_getChar_3b067 53 = .ok (.getstatic 63, 3) := by decide +kernel
theorem dJ2_getChar_3b067_56 : decode cJ2_getChar_3b067 56 = .ok (.ishl, 1) := by decide +kernel
theorem dJ2_getChar_3b067_57 : decode cJ2_getChar_3b067 57 = .ok (.ior, 1) := by decide +kernel
theorem dJ2_getChar_3b067_58 : decode cJ2_getChar_3b067 58 = .ok (.i2c, 1) := by decide +kernel
theorem dJ2_getChar_3b067_59 : decode cJ2_getChar_3b067 59 = .ok (.ireturn, 1) := by decide +kernel
theorem dJ2_length_9d52b_0 : decode cJ2_length_9d52b 0 = .ok (.aload_n 0, 1) := by decide +kernel
theorem dJ2_length_9d52b_1 : decode cJ2_length_9d52b 1 = .ok (.arraylength, 1) := by decide +kernel
theorem dJ2_length_9d52b_2 : decode cJ2_length_9d52b 2 = .ok (.iconst 1, 1) := by decide +kernel
theorem dJ2_length_9d52b_3 : decode cJ2_length_9d52b 3 = .ok (.ishr, 1) := by decide +kernel
theorem dJ2_length_9d52b_4 : decode cJ2_length_9d52b 4 = .ok (.ireturn, 1) := by decide +kernel
theorem dJ2_coderFromArrayLen_85cad_0 : decode cJ2_coderFromArrayLen_85cad 0 = .ok (.iload_n 1, 1) := by decide +kernel
theorem dJ2_coderFromArrayLen_85cad_1 : decode cJ2_coderFromArrayLen_85cad 1 = .ok (.aload_n 0, 1) := by decide +kernel
theorem dJ2_coderFromArrayLen_85cad_2 : decode cJ2_coderFromArrayLen_85cad 2 = .ok (.arraylength, 1) := by decide +kernel
theorem dJ2_coderFromArrayLen_85cad_3 : decode cJ2_coderFromArrayLen_85cad 3 = .ok (.isub, 1) := by decide +kernel
theorem dJ2_coderFromArrayLen_85cad_4 : decode cJ2_coderFromArrayLen_85cad 4 = .ok (.bipush 31, 2) := by decide +kernel
theorem dJ2_coderFromArrayLen_85cad_6 : decode cJ2_coderFromArrayLen_85cad 6 = .ok (.iushr, 1) := by decide +kernel
theorem dJ2_coderFromArrayLen_85cad_7 : decode cJ2_coderFromArrayLen_85cad 7 = .ok (.i2b, 1) := by decide +kernel
theorem dJ2_coderFromArrayLen_85cad_8 : decode cJ2_coderFromArrayLen_85cad 8 = .ok (.ireturn, 1) := by decide +kernel
theorem dJ2_compress_39247_0 : decode cJ2_compress_39247 0 = .ok (.iload_n 2, 1) := by decide +kernel
theorem dJ2_compress_39247_1 : decode cJ2_compress_39247 1 = .ok (.newarray .byte, 2) := by decide +kernel
theorem dJ2_compress_39247_3 : decode cJ2_compress_39247 3 = .ok (.astore_n 3, 1) := by decide +kernel
theorem dJ2_compress_39247_4 : decode cJ2_compress_39247 4 = .ok (.aload_n 0, 1) := by decide +kernel
theorem dJ2_compress_39247_5 : decode cJ2_compress_39247 5 = .ok (.iload_n 1, 1) := by decide +kernel
theorem dJ2_compress_39247_6 : decode cJ2_compress_39247 6 = .ok (.aload_n 3, 1) := by decide +kernel
theorem dJ2_compress_39247_7 : decode cJ2_compress_39247 7 = .ok (.iconst 0, 1) := by decide +kernel
theorem dJ2_compress_39247_8 : decode cJ2_compress_39247 8 = .ok (.iload_n 2, 1) := by decide +kernel
theorem dJ2_compress_39247_9 : decode cJ2_compress_39247 9 = .ok (.invokestatic 123, 3) := by decide +kernel
theorem dJ2_compress_39247_12 : decode cJ2_compress_39247 12 = .ok (.istore 4, 2) := by decide +kernel
theorem dJ2_compress_39247_14 : decode cJ2_compress_39247 14 = .ok (.iload 4, 2) := by decide +kernel
theorem dJ2_compress_39247_16 : decode cJ2_compress_39247 16 = .ok (.iload_n 2, 1) := by decide +kernel
theorem dJ2_compress_39247_17 : decode cJ2_compress_39247 17 = .ok (.if_icmp .eq 47, 3) := by decide +kernel
theorem dJ2_compress_39247_20 : decode cJ2_compress_39247 20 = .ok (.aload_n 0, 1) := by decide +kernel
theorem dJ2_compress_39247_21 : decode cJ2_compress_39247 21 = .ok (.iload_n 1, 1) := by decide +kernel
theorem dJ2_compress_39247_22 : decode cJ2_compress_39247 22 = .ok (.iconst 1, 1) := by decide +kernel
theorem dJ2_compress_39247_23 : decode cJ2_compress_39247 23 = .ok (.ishl, 1) := by decide +kernel
theorem dJ2_compress_39247_24 : decode cJ2_compress_39247 24 = .ok (.iload_n 1, 1) := by decide +kernel
theorem dJ2_compress_39247_25 : decode cJ2_compress_39247 25 = .ok (.iload_n 2, 1) := by decide +kernel
theorem dJ2_compress_39247_26 : decode cJ2_compress_39247 26 = .ok (.iadd, 1) := by decide +kernel
theorem dJ2_compress_39247_27 : decode cJ2_compress_39247 27 = .ok (.invokestatic 11, 3) := by decide +kernel
theorem dJ2_compress_39247_30 : decode cJ2_compress_39247 30 = .ok (.invokestatic 126, 3) := by decide +kernel
theorem dJ2_compress_39247_33 : decode cJ2_compress_39247 33 = .ok (.astore 5, 2) := by decide +kernel
theorem dJ2_compress_39247_35 : decode cJ2_compress_39247 35 = .ok (.aload 5, 2) := by decide +kernel
theorem dJ2_compress_39247_37 : decode cJ2_compress_39247 37 = .ok (.iload 4, 2) := by decide +kernel
theorem dJ2_compress_39247_39 : decode cJ2_compress_39247 39 = .ok (.invokestatic 71, 3) := by decide +kernel
theorem dJ2_compress_39247_42 : decode cJ2_compress_39247 42 = .ok (.sipush 255, 3) := by decide +kernel
theorem dJ2_compress_39247_45 : decode cJ2_compress_39247 45 = .ok (.if_icmp .gt 16, 3) := by decide +kernel
theorem dJ2_compress_39247_48 : decode cJ2_compress_39247 48 = .ok (.aload 5, 2) := by decide +kernel
theorem dJ2_compress_39247_50 : decode cJ2_compress_39247 50 = .ok (.iconst 0, 1) := by decide +kernel
theorem dJ2_compress_39247_51 : decode cJ2_compress_39247 51 = .ok (.aload_n 3, 1) := by decide +kernel
theorem dJ2_compress_39247_52 : decode cJ2_compress_39247 52 = .ok (.iconst 0, 1) := by decide +kernel
theorem dJ2_compress_39247_53 : decode cJ2_compress_39247 53 = .ok (.iload_n 2, 1) := by decide +kernel
theorem dJ2_compress_39247_54 : decode cJ2_compress_39247 54 = .ok (.invokestatic 123, 3) := by decide +kernel
theorem dJ2_compress_39247_57 : decode cJ2_compress_39247 57 = .ok (.iload_n 2, 1) := by decide +kernel
theorem dJ2_compress_39247_58 : decode cJ2_compress_39247 58 = .ok (.if_icmp .eq 6, 3) := by decide +kernel
theorem dJ2_compress_39247_61 : decode cJ2_compress_39247 61 = .ok (.aload 5, 2) := by decide +kernel
theorem dJ2_compress_39247_63 : decode cJ2_compress_39247 63 = .ok (.areturn, 1) := by decide +kernel
theorem dJ2_compress_39247_64 : decode cJ2_compress_39247 64 = .ok (.aload_n 3, 1) := by decide +kernel
theorem dJ2_compress_39247_65 : decode cJ2_compress_39247 65 = .ok (.areturn, 1) := by decide +kernel
theorem dJ2_compress_5af95_0 : decode cJ2_compress_5af95 0 = .ok (.iload_n 1, 1) := by decide +kernel
theorem dJ2_compress_5af95_1 : decode cJ2_compress_5af95 1 = .ok (.iload 4, 2) := by decide +kernel
theorem dJ2_compress_5af95_3 : decode cJ2_compress_5af95 3 = .ok (.aload_n 0, 1) := by decide +kernel
theorem dJ2_compress_5af95_4 : decode cJ2_compress_5af95 4 = .ok (.invokestatic 173, 3) := by decide +kernel
theorem dJ2_compress_5af95_7 : decode cJ2_compress_5af95 7 = .ok (.iconst 0, 1) := by decide +kernel
theorem dJ2_compress_5af95_8 : decode cJ2_compress_5af95 8 = .ok (.istore 5, 2) := by decide +kernel
theorem dJ2_compress_5af95_10 : decode cJ2_compress_5af95 10 = .ok (.iload 5, 2) := by decide +kernel
theorem dJ2_compress_5af95_12 : decode cJ2_compress_5af95 12 = .ok (.iload 4, 2) := by decide +kernel
theorem dJ2_compress_5af95_14 : decode cJ2_compress_5af95 14 = .ok (.if_icmp .ge 39, 3) := by decide +kernel
theorem dJ2_compress_5af95_17 : decode cJ2_compress_5af95 17 = .ok (.aload_n 0, 1) := by decide +kernel
theorem dJ2_compress_5af95_18 : decode cJ2_compress_5af95 18 = .ok (.iload_n 1, 1) := by decide +kernel
theorem dJ2_compress_5af95_19 : decode cJ2_compress_5af95 19 = .ok (.invokestatic 71, 3) := by decide +kernel
theorem dJ2_compress_5af95_22 : decode cJ2_compress_5af95 22 = .ok (.istore 6, 2) := by decide +kernel
theorem dJ2_compress_5af95_24 : decode cJ2_compress_5af95 24 = .ok (.iload 6, 2) := by decide +kernel
theorem dJ2_compress_5af95_26 : decode cJ2_compress_5af95 26 = .ok (.sipush 255, 3) := by decide +kernel
theorem dJ2_compress_5af95_29 : decode cJ2_compress_5af95 29 = .ok (.if_icmp .le 6, 3) := by decide +kernel
theorem dJ2_compress_5af95_32 : decode cJ2_compress_5af95 32 = .ok (.iload 5, 2) := by decide +kernel
theorem dJ2_compress_5af95_34 : decode cJ2_compress_5af95 34 = .ok (.ireturn, 1) := by decide +kernel
theorem dJ2_compress_5af95_35 : decode cJ2_compress_5af95 35 = .ok (.aload_n 2, 1) := by decide +kernel
theorem dJ2_compress_5af95_36 : decode cJ2_compress_5af95 36 = .ok (.iload_n 3, 1) := by decide +kernel
theorem dJ2_compress_5af95_37 : decode cJ2_compress_5af95 37 = .ok (.iload 6, 2) := by decide +kernel
theorem dJ2_compress_5af95_39 : decode cJ2_compress_5af95 39 = .ok (.i2b, 1) := by decide +kernel
theorem dJ2_compress_5af95_40 : decode cJ2_compress_5af95 40 = .ok (.bastore, 1) := by decide +kernel
theorem dJ2_compress_5af95_41 : decode cJ2_compress_5af95 41 = .ok (.iinc 1 1, 3) := by decide +kernel
theorem dJ2_compress_5af95_44 : decode cJ2_compress_5af95 44 = .ok (.iinc 3 1, 3) := by decide +kernel
theorem dJ2_compress_5af95_47 : decode cJ2_compress_5af95 47 = .ok (.iinc 5 1, 3) := by decide +kernel
theorem dJ2_compress_5af95_50 : decode cJ2_compress_5af95 50 = .ok (.goto (-40), 3) := by decide +kernel
theorem dJ2_compress_5af95_53 : decode cJ2_compress_5af95 53 = .ok (.iload 4, 2) := by decide +kernel
theorem dJ2_compress_5af95_55 : decode cJ2_compress_5af95 55 = .ok (.ireturn, 1) := by decide +kernel
theorem dJ2_fillNull_b72d1_0 : decode cJ2_fillNull_b72d1 0 = .ok (.aload_n 0, 1) := by decide +kernel
theorem dJ2_fillNull_b72d1_1 : decode cJ2_fillNull_b72d1 1 = .ok (.iload_n 1, 1) := by decide +kernel
theorem dJ2_fillNull_b72d1_2 : decode cJ2_fillNull_b72d1 2 = .ok (.iconst 1, 1) := by decide +kernel
theorem dJ2_fillNull_b72d1_3 : decode cJ2_fillNull_b72d1 3 = .ok (.ishl, 1) := by decide +kernel
theorem dJ2_fillNull_b72d1_4 : decode cJ2_fillNull_b72d1 4 = .ok (.iload_n 2, 1) := by decide +kernel
theorem dJ2_fillNull_b72d1_5 : decode cJ2_fillNull_b72d1 5 = .ok (.iconst 1, 1) := by decide +kernel
theorem dJ2_fillNull_b72d1_6 : decode cJ2_fillNull_b72d1 6 = .ok (.ishl, 1) := by decide +kernel
theorem dJ2_fillNull_b72d1_7 : decode cJ2_fillNull_b72d1 7 = .ok (.iconst 0, 1) := by decide +kernel
theorem dJ2_fillNull_b72d1_8 : decode cJ2_fillNull_b72d1 8 = .ok (.invokestatic 380, 3) := by decide +kernel
theorem dJ2_fillNull_b72d1_11 : decode cJ2_fillNull_b72d1 11 = .ok (.return_, 1) := by decide +kernel
theorem dJ2_putCharSB_b72d1_0 : decode cJ2_putCharSB_b72d1 0 = .ok (.iload_n 1, 1) := by decide +kernel
theorem dJ2_putCharSB_b72d1_1 : decode cJ2_putCharSB_b72d1 1 = .ok (.aload_n 0, 1) := by decide +kernel
theorem dJ2_putCharSB_b72d1_2 : decode cJ2_putCharSB_b72d1 2 = .ok (.invokestatic 67, 3) := by decide +kernel
theorem dJ2_putCharSB_b72d1_5 : decode cJ2_putCharSB_b72d1 5 = .ok (.aload_n 0, 1) := by decide +kernel
theorem dJ2_putCharSB_b72d1_6 : decode cJ2_putCharSB_b72d1 6 = .ok (.iload_n 1, 1) := by decide +kernel
theorem dJ2_putCharSB_b72d1_7 : decode cJ2_putCharSB_b72d1 7 = .ok (.iload_n 2, 1) := by decide +kernel
theorem dJ2_putCharSB_b72d1_8 : decode cJ2_putCharSB_b72d1 8 = .ok (.invokestatic 111, 3) := by decide +kernel
theorem dJ2_putCharSB_b72d1_11 : decode cJ2_putCharSB_b72d1 11 = .ok (.return_, 1) := by decide +kernel
theorem dJ2_getChars_46870_0 : decode cJ2_getChars_46870 0 = .ok (.iload_n 1, 1) := by decide +kernel
theorem dJ2_getChars_46870_1 : decode cJ2_getChars_46870 1 = .ok (.iload_n 2, 1) := by decide +kernel
theorem dJ2_getChars_46870_2 : decode cJ2_getChars_46870 2 = .ok (.aload_n 3, 1) := by decide +kernel
theorem dJ2_getChars_46870_3 : decode cJ2_getChars_46870 3 = .ok (.invokestatic 96, 3) := by decide +kernel
theorem dJ2_getChars_46870_6 : decode cJ2_getChars_46870 6 = .ok (.iload_n 0, 1) := by decide +kernel
theorem dJ2_getChars_46870_7 : decode cJ2_getChars_46870 7 = .ok (.iload_n 2, 1) := by decide +kernel
theorem dJ2_getChars_46870_8 : decode cJ2_getChars_46870 8 = .ok (.aload_n 3, 1) := by decide +kernel
theorem dJ2_getChars_46870_9 : decode cJ2_getChars_46870 9 = .ok (.invokestatic 393, 3) := by decide +kernel
theorem dJ2_getChars_46870_12 : decode cJ2_getChars_46870 12 = .ok (.istore 4, 2) := by decide +kernel
theorem dJ2_getChars_46870_14 : decode cJ2_getChars_46870 14 = .ok (.getstatic 44, 3) := by decide +kernel
theorem dJ2_getChars_46870_17 : decode cJ2_getChars_46870 17 = .ok (.ifCond .ne 17, 3) := by decide +kernel
theorem dJ2_getChars_46870_20 : decode cJ2_getChars_46870 20 = .ok (.iload_n 1, 1) := by decide +kernel
theorem dJ2_getChars_46870_21 : decode cJ2_getChars_46870 21 = .ok (.iload 4, 2) := by decide +kernel
theorem dJ2_getChars_46870_23 : decode cJ2_getChars_46870 23 = .ok (.if_icmp .eq 11, 3) := by decide +kernel
theorem dJ2_getChars_46870_26 : decode cJ2_getChars_46870 26 = .ok (.new 52, 3) := by decide +kernel
theorem dJ2_getChars_46870_29 : decode cJ2_getChars_46870 29 = .ok (.dup, 1) := by decide +kernel
theorem dJ2_getChars_46870_30 : decode cJ2_getChars_46870 30 = .ok (.invokespecial 66, 3) := by decide +kernel
theorem dJ2_getChars_46870_33 : decode cJ2_getChars_46870 33 = .ok (.athrow, 1) := by decide +kernel
theorem dJ2_getChars_46870_34 : decode cJ2_getChars_46870 34 = .ok (.iload 4, 2) := by decide +kernel
theorem dJ2_getChars_46870_36 : decode cJ2_getChars_46870 36 = .ok (.ireturn, 1) := by decide +kernel
theorem dJ2_putCharsAt_cd4e5_0 : decode cJ2_putCharsAt_cd4e5 0 = .ok (.iload_n 1, 1) := by decide +kernel
theorem dJ2_putCharsAt_cd4e5_1 : decode cJ2_putCharsAt_cd4e5 1 = .ok (.iconst 4, 1) := by decide +kernel
theorem dJ2_putCharsAt_cd4e5_2 : decode cJ2_putCharsAt_cd4e5 2 = .ok (.iadd, 1) := by decide +kernel
theorem dJ2_putCharsAt_cd4e5_3 : decode cJ2_putCharsAt_cd4e5 3 = .ok (.istore 6, 2) := by decide +kernel
theorem dJ2_putCharsAt_cd4e5_5 : decode cJ2_putCharsAt_cd4e5 5 = .ok (.iload_n 1, 1) := by decide +kernel
theorem dJ2_putCharsAt_cd4e5_6 : decode cJ2_putCharsAt_cd4e5 6 = .ok (.iload 6, 2) := by decide +kernel
theorem dJ2_putCharsAt_cd4e5_8 : decode cJ2_putCharsAt_cd4e5 8 = .ok (.aload_n 0, 1) := by decide +kernel
theorem dJ2_putCharsAt_cd4e5_9 : decode cJ2_putCharsAt_cd4e5 9 = .ok (.invokestatic 96, 3) := by decide +kernel
theorem dJ2_putCharsAt_cd4e5_12 : decode cJ2_putCharsAt_cd4e5 12 = .ok (.aload_n 0, 1) := by decide +kernel
theorem dJ2_putCharsAt_cd4e5_13 : decode cJ2_putCharsAt_cd4e5 13 = .ok (.iload_n 1, 1) := by decide +kernel
theorem dJ2_putCharsAt_cd4e5_14 : decode cJ2_putCharsAt_cd4e5 14 = .ok (.iinc 1 1, 3) := by decide +kernel
theorem dJ2_putCharsAt_cd4e5_17 : decode cJ2_putCharsAt_cd4e5 17 = .ok (.iload_n 2, 1) := by decide +kernel
theorem dJ2_putCharsAt_cd4e5_18 : decode cJ2_putCharsAt_cd4e5 18 = .ok (.invokestatic 111, 3) := by decide +kernel
theorem dJ2_putCharsAt_cd4e5_21 : decode cJ2_putCharsAt_cd4e5 21 = .ok (.aload_n 0, 1) := by decide +kernel
theorem dJ2_putCharsAt_cd4e5_22 : decode cJ2_putCharsAt_cd4e5 22 = .ok (.iload_n 1, 1) := by decide +kernel
theorem dJ2_putCharsAt_cd4e5_23 : decode cJ2_putCharsAt_cd4e5 23 = .ok (.iinc 1 1, 3) := by decide +kernel
theorem dJ2_putCharsAt_cd4e5_26 : decode cJ2_putCharsAt_cd4e5 26 = .ok (.iload_n 3, 1) := by decide +kernel
theorem dJ2_putCharsAt_cd4e5_27 : decode cJ2_putCharsAt_cd4e5 27 = .ok (.invokestatic 111, 3) := by decide +kernel
theorem dJ2_putCharsAt_cd4e5_30 : decode cJ2_putCharsAt_cd4e5 30 = .ok (.aload_n 0, 1) := by decide +kernel
theorem dJ2_putCharsAt_cd4e5_31 : decode cJ2_putCharsAt_cd4e5 31 = .ok (.iload_n 1, 1) := by decide +kernel
theorem dJ2_putCharsAt_cd4e5_32 : decode cJ2_putCharsAt_cd4e5 32 = .ok (.iinc 1 1, 3) := by decide +kernel
theorem dJ2_putCharsAt_cd4e5_35 : decode cJ2_putCharsAt_cd4e5 35 = .ok (.iload 4, 2) := by decide +kernel
theorem dJ2_putCharsAt_cd4e5_37 : decode cJ2_putCharsAt_cd4e5 37 = .ok (.invokestatic 111, 3) := by decide +kernel
theorem dJ2_putCharsAt_cd4e5_40 : decode cJ2_putCharsAt_cd4e5 40 = .ok (.aload_n 0, 1) := by decide +kernel
theorem dJ2_putCharsAt_cd4e5_41 : decode cJ2_putCharsAt_cd4e5 41 = .ok (.iload_n 1, 1) := by decide +kernel
theorem dJ2_putCharsAt_cd4e5_42 : decode cJ2_putCharsAt_cd4e5 42 = .ok (.iinc 1 1, 3) := by decide +kernel
theorem dJ2_putCharsAt_cd4e5_45 : decode cJ2_putCharsAt_cd4e5 45 = .ok (.iload 5, 2) := by decide +kernel
theorem dJ2_putCharsAt_cd4e5_47 : decode cJ2_putCharsAt_cd4e5 47 = .ok (.invokestatic 111, 3) := by decide +kernel
theorem dJ2_putCharsAt_cd4e5_50 : decode cJ2_putCharsAt_cd4e5 50 = .ok (.getstatic 44, 3) := by decide +kernel
theorem dJ2_putCharsAt_cd4e5_53 : decode cJ2_putCharsAt_cd4e5 53 = .ok (.ifCond .ne 17, 3) := by decide +kernel
theorem dJ2_putCharsAt_cd4e5_56 : decode cJ2_putCharsAt_cd4e5 56 = .ok (.iload_n 1, 1) := by decide +kernel
theorem dJ2_putCharsAt_cd4e5_57 : decode cJ2_putCharsAt_cd4e5 57 = .ok (.iload 6, 2) := by decide +kernel
theorem dJ2_putCharsAt_cd4e5_59 : decode cJ2_putCharsAt_cd4e5 59 = .ok (.if_icmp .eq 11, 3) := by decide +kernel
theorem dJ2_putCharsAt_cd4e5_62 : decode cJ2_putCharsAt_cd4e5 62 = .ok (.new 52, 3) := by decide +kernel
theorem dJ2_putCharsAt_cd4e5_65 : decode cJ2_putCharsAt_cd4e5 65 = .ok (.dup, 1) := by decide +kernel
theorem dJ2_putCharsAt_cd4e5_66 : decode cJ2_putCharsAt_cd4e5 66 = .ok (.invokespecial 66, 3) := by decide +kernel
theorem dJ2_putCharsAt_cd4e5_69 : decode cJ2_putCharsAt_cd4e5 69 = .ok (.athrow, 1) := by decide +kernel
theorem dJ2_putCharsAt_cd4e5_70 : decode cJ2_putCharsAt_cd4e5 70 = .ok (.iload 6, 2) := by decide +kernel
theorem dJ2_putCharsAt_cd4e5_72 : decode cJ2_putCharsAt_cd4e5 72 = .ok (.ireturn, 1) := by decide +kernel
theorem dJ2_charAt_3b067_0 : decode cJ2_charAt_3b067 0 = .ok (.iload_n 1, 1) := by decide +kernel
theorem dJ2_charAt_3b067_1 : decode cJ2_charAt_3b067 1 = .ok (.aload_n 0, 1) := by decide +kernel
theorem dJ2_charAt_3b067_2 : decode cJ2_charAt_3b067 2 = .ok (.invokestatic 67, 3) := by decide +kernel
theorem dJ2_charAt_3b067_5 : decode cJ2_charAt_3b067 5 = .ok (.aload_n 0, 1) := by decide +kernel
theorem dJ2_charAt_3b067_6 : decode cJ2_charAt_3b067 6 = .ok (.iload_n 1, 1) := by decide +kernel
theorem dJ2_charAt_3b067_7 : decode cJ2_charAt_3b067 7 = .ok (.invokestatic 71, 3) := by decide +kernel
theorem dJ2_charAt_3b067_10 : decode cJ2_charAt_3b067 10 = .ok (.ireturn, 1) := by decide +kernel
theorem dJ2_inflate_0e8fd_0 : decode cJ2_inflate_0e8fd 0 = .ok (.iload_n 3, 1) := by decide +kernel
theorem dJ2_inflate_0e8fd_1 : decode cJ2_inflate_0e8fd 1 = .ok (.iload 4, 2) := by decide +kernel
theorem dJ2_inflate_0e8fd_3 : decode cJ2_inflate_0e8fd 3 = .ok (.aload_n 2, 1) := by decide +kernel
theorem dJ2_inflate_0e8fd_4 : decode cJ2_inflate_0e8fd 4 = .ok (.invokestatic 173, 3) := by decide +kernel
theorem dJ2_inflate_0e8fd_7 : decode cJ2_inflate_0e8fd 7 = .ok (.iconst 0, 1) := by decide +kernel
theorem dJ2_inflate_0e8fd_8 : decode cJ2_inflate_0e8fd 8 = .ok (.istore 5, 2) := by decide +kernel
theorem dJ2_inflate_0e8fd_10 : decode cJ2_inflate_0e8fd 10 = .ok (.iload 5, 2) := by decide +kernel
theorem dJ2_inflate_0e8fd_12 : decode cJ2_inflate_0e8fd 12 = .ok (.iload 4, 2) := by decide +kernel
theorem dJ2_inflate_0e8fd_14 : decode cJ2_inflate_0e8fd 14 = .ok (.if_icmp .ge 27, 3) := by decide +kernel
theorem dJ2_inflate_0e8fd_17 : decode cJ2_inflate_0e8fd 17 = .ok (.aload_n 2, 1) := by decide +kernel
theorem dJ2_inflate_0e8fd_18 : decode cJ2_inflate_0e8fd 18 = .ok (.iload_n 3, 1) := by decide +kernel
theorem dJ2_inflate_0e8fd_19 : decode cJ2_inflate_0e8fd 19 = .ok (.iinc 3 1, 3) := by decide +kernel
theorem dJ2_inflate_0e8fd_22 : decode cJ2_inflate_0e8fd 22 = .ok (.aload_n 0, 1) := by decide +kernel
theorem dJ2_inflate_0e8fd_23 : decode cJ2_inflate_0e8fd 23 = .ok (.iload_n 1, 1) := by decide +kernel
theorem dJ2_inflate_0e8fd_24 : decode cJ2_inflate_0e8fd 24 = .ok (.iinc 1 1, 3) := by decide +kernel
theorem dJ2_inflate_0e8fd_27 : decode cJ2_inflate_0e8fd 27 = .ok (.baload, 1) := by decide +kernel
theorem dJ2_inflate_0e8fd_28 : decode cJ2_inflate_0e8fd 28 = .ok (.sipush 255, 3) := by decide +kernel
theorem dJ2_inflate_0e8fd_31 : decode cJ2_inflate_0e8fd 31 = .ok (.iand, 1) := by decide +kernel
theorem dJ2_inflate_0e8fd_32 : decode cJ2_inflate_0e8fd 32 = .ok (.invokestatic 111, 3) := by decide +kernel
theorem dJ2_inflate_0e8fd_35 : decode cJ2_inflate_0e8fd 35 = .ok (.iinc 5 1, 3) := by decide +kernel
theorem dJ2_inflate_0e8fd_38 : decode cJ2_inflate_0e8fd 38 = .ok (.goto (-28), 3) := by decide +kernel
theorem dJ2_inflate_0e8fd_41 : decode cJ2_inflate_0e8fd 41 = .ok (.return_, 1) := by decide +kernel
theorem dJ2_getChars_ba4f3_0 : decode cJ2_getChars_ba4f3 0 = .ok (.iload_n 1, 1) := by decide +kernel
theorem dJ2_getChars_ba4f3_1 : decode cJ2_getChars_ba4f3 1 = .ok (.istore 5, 2) := by decide +kernel
theorem dJ2_getChars_ba4f3_3 : decode cJ2_getChars_ba4f3 3 = .ok (.iload_n 0, 1) := by decide +kernel
theorem dJ2_getChars_ba4f3_4 : decode cJ2_getChars_ba4f3 4 = .ok (.ifCond .ge 7, 3) := by decide +kernel
theorem dJ2_getChars_ba4f3_7 : decode cJ2_getChars_ba4f3 7 = .ok (.iconst 1, 1) := by decide +kernel
theorem dJ2_getChars_ba4f3_8 : decode cJ2_getChars_ba4f3 8 = .ok (.goto 4, 3) := by decide +kernel
theorem dJ2_getChars_ba4f3_11 : decode cJ2_getChars_ba4f3 11 = .ok (.iconst 0, 1) := by decide +kernel
theorem dJ2_getChars_ba4f3_12 : decode cJ2_getChars_ba4f3 12 = .ok (.istore 6, 2) := by decide +kernel
theorem dJ2_getChars_ba4f3_14 : decode cJ2_getChars_ba4f3 14 = .ok (.iload 6, 2) := by decide +kernel
theorem dJ2_getChars_ba4f3_16 : decode cJ2_getChars_ba4f3 16 = .ok (.ifCond .ne 6, 3) := by decide +kernel
theorem dJ2_getChars_ba4f3_19 : decode cJ2_getChars_ba4f3 19 = .ok (.iload_n 0, 1) := by decide +kernel
theorem dJ2_getChars_ba4f3_20 : decode cJ2_getChars_ba4f3 20 = .ok (.ineg, 1) := by decide +kernel
theorem dJ2_getChars_ba4f3_21 : decode cJ2_getChars_ba4f3 21 = .ok (.istore_n 0, 1) := by decide +kernel
theorem dJ2_getChars_ba4f3_22 : decode cJ2_getChars_ba4f3 22 = .ok (.iload_n 0, 1) := by decide +kernel
theorem dJ2_getChars_ba4f3_23 : decode cJ2_getChars_ba4f3 23 = .ok (.bipush (-100), 2) := by decide +kernel
theorem dJ2_getChars_ba4f3_25 : decode cJ2_getChars_ba4f3 25 = .ok (.if_icmp .gt 51, 3) := by decide +kernel
theorem dJ2_getChars_ba4f3_28 : decode cJ2_getChars_ba4f3 28 = .ok (.iload_n 0, 1) := by decide +kernel
theorem dJ2_getChars_ba4f3_29 : decode cJ2_getChars_ba4f3 29 = .ok (.bipush 100, 2) := by decide +kernel
theorem dJ2_getChars_ba4f3_31 : decode cJ2_getChars_ba4f3 31 = .ok (.idiv, 1) := by decide +kernel
theorem dJ2_getChars_ba4f3_32 : decode cJ2_getChars_ba4f3 32 = .ok (.istore_n 3, 1) := by decide +kernel
theorem dJ2_getChars_ba4f3_33 : decode cJ2_getChars_ba4f3 33 = .ok (.iload_n 3, 1) := by decide +kernel
theorem dJ2_getChars_ba4f3_34 : decode cJ2_getChars_ba4f3 34 = .ok (.bipush 100, 2) := by decide +kernel
theorem dJ2_getChars_ba4f3_36 : decode cJ2_getChars_ba4f3 36 = .ok (.imul, 1) := by decide +kernel
theorem dJ2_getChars_ba4f3_37 : decode cJ2_getChars_ba4f3 37 = .ok (.iload_n 0, 1) := by decide +kernel
theorem dJ2_getChars_ba4f3_38 : decode cJ2_getChars_ba4f3 38 = .ok (.isub, 1) := by decide +kernel
theorem dJ2_getChars_ba4f3_39 : decode cJ2_getChars_ba4f3 39 = .ok (.istore 4, 2) := by decide +kernel
theorem dJ2_getChars_ba4f3_41 : decode cJ2_getChars_ba4f3 41 = .ok (.iload_n 3, 1) := by decide +kernel
theorem dJ2_getChars_ba4f3_42 : decode cJ2_getChars_ba4f3 42 = .ok (.istore_n 0, 1) := by decide +kernel
theorem dJ2_getChars_ba4f3_43 : decode cJ2_getChars_ba4f3 43 = .ok (.aload_n 2, 1) := by decide +kernel
theorem dJ2_getChars_ba4f3_44 : decode cJ2_getChars_ba4f3 44 = .ok (.iinc 5 (-1), 3) := by decide +kernel
theorem dJ2_getChars_ba4f3_47 : decode cJ2_getChars_ba4f3 47 = .ok (.iload 5, 2) := by decide +kernel
theorem dJ2_getChars_ba4f3_49 : decode cJ2_getChars_ba4f3 49 = .ok (.getstatic 403, 3) := by decide +kernel
theorem dJ2_getChars_ba4f3_52 : decode cJ2_getChars_ba4f3 52 = .ok (.iload 4, 2) := by decide +kernel
theorem dJ2_getChars_ba4f3_54 : decode cJ2_getChars_ba4f3 54 = .ok (.baload, 1) := by decide +kernel
theorem dJ2_getChars_ba4f3_55 : decode cJ2_getChars_ba4f3 55 = .ok (.invokestatic 111, 3) := by decide +kernel
theorem dJ2_getChars_ba4f3_58 : decode cJ2_getChars_ba4f3 58 = .ok (.aload_n 2, 1) := by decide +kernel
theorem dJ2_getChars_ba4f3_59 : decode cJ2_getChars_ba4f3 59 = .ok (.iinc 5 (-1), 3) := by decide +kernel
theorem dJ2_getChars_ba4f3_62 : decode cJ2_getChars_ba4f3 62 = .ok (.iload 5, 2) := by decide +kernel
theorem dJ2_getChars_ba4f3_64 : decode cJ2_getChars_ba4f3 64 = .ok (.getstatic 407, 3) := by decide +kernel
theorem dJ2_getChars_ba4f3_67 : decode cJ2_getChars_ba4f3 67 = .ok (.iload 4, 2) := by decide +kernel
theorem dJ2_getChars_ba4f3_69 : decode cJ2_getChars_ba4f3 69 = .ok (.baload, 1) := by decide +kernel
theorem dJ2_getChars_ba4f3_70 : decode cJ2_getChars_ba4f3 70 = .ok (.invokestatic 111, 3) := by decide +kernel
theorem dJ2_getChars_ba4f3_73 : decode cJ2_getChars_ba4f3 73 = .ok (.goto (-51), 3) := by decide +kernel
theorem dJ2_getChars_ba4f3_76 : decode cJ2_getChars_ba4f3 76 = .ok (.aload_n 2, 1) := by decide +kernel
theorem dJ2_getChars_ba4f3_77 : decode cJ2_getChars_ba4f3 77 = .ok (.iinc 5 (-1), 3) := by decide +kernel
theorem dJ2_getChars_ba4f3_80 : decode cJ2_getChars_ba4f3 80 = .ok (.iload 5, 2) := by decide +kernel
theorem dJ2_getChars_ba4f3_82 : decode cJ2_getChars_ba4f3 82 = .ok (.getstatic 403, 3) := by decide +kernel
theorem dJ2_getChars_ba4f3_85 : decode cJ2_getChars_ba4f3 85 = .ok (.iload_n 0, 1) := by decide +kernel
theorem dJ2_getChars_ba4f3_86 : decode cJ2_getChars_ba4f3 86 = .ok (.ineg, 1) := by decide +kernel
theorem dJ2_getChars_ba4f3_87 : decode cJ2_getChars_ba4f3 87 = .ok (.baload, 1) := by decide +kernel
theorem dJ2_getChars_ba4f3_88 : decode cJ2_getChars_ba4f3 88 = .ok (.invokestatic 111, 3) := by decide +kernel
theorem dJ2_getChars_ba4f3_91 : decode cJ2_getChars_ba4f3 91 = .ok (.iload_n 0, 1) := by decide +kernel
theorem dJ2_getChars_ba4f3_92 : decode cJ2_getChars_ba4f3 92 = .ok (.bipush (-9), 2) := by decide +kernel
theorem dJ2_getChars_ba4f3_94 : decode cJ2_getChars_ba4f3 94 = .ok (.if_icmp .ge 18, 3) := by decide +kernel
theorem dJ2_getChars_ba4f3_97 : decode cJ2_getChars_ba4f3 97 = .ok (.aload_n 2, 1) := by decide +kernel
theorem dJ2_getChars_ba4f3_98 : decode cJ2_getChars_ba4f3 98 = .ok (.iinc 5 (-1), 3) := by decide +kernel
theorem dJ2_getChars_ba4f3_101 : decode cJ2_getChars_ba4f3 101 = .ok (.iload 5, 2) := by decide +kernel
theorem dJ2_getChars_ba4f3_103 : decode cJ2_getChars_ba4f3 103 = .ok (.getstatic 407, 3) := by decide +kernel
theorem dJ2_getChars_ba4f3_106 : decode cJ2_getChars_ba4f3 106 = .ok (.iload_n 0, 1) := by decide +kernel
theorem dJ2_getChars_ba4f3_107 : decode cJ2_getChars_ba4f3 107 = .ok (.ineg, 1) := by decide +kernel
theorem dJ2_getChars_ba4f3_108 : decode cJ2_getChars_ba4f3 108 = .ok (.baload, 1) := by decide +kernel
theorem dJ2_getChars_ba4f3_109 : decode cJ2_getChars_ba4f3 109 = .ok (.invokestatic 111, 3) := by decide +kernel
theorem dJ2_getChars_ba4f3_112 : decode cJ2_getChars_ba4f3 112 = .ok (.iload 6, 2) := by decide +kernel
theorem dJ2_getChars_ba4f3_114 : decode cJ2_getChars_ba4f3 114 = .ok (.ifCond .eq 14, 3) := by decide +kernel
theorem dJ2_getChars_ba4f3_117 : decode cJ2_getChars_ba4f3 117 = .ok (.aload_n 2, 1) := by decide +kernel
theorem dJ2_getChars_ba4f3_118 : decode cJ2_getChars_ba4f3 118 = .ok (.iinc 5 (-1), 3) := by decide +kernel
theorem dJ2_getChars_ba4f3_121 : decode cJ2_getChars_ba4f3 121 = .ok (.iload 5, 2) := by decide +kernel
theorem dJ2_getChars_ba4f3_123 : decode cJ2_getChars_ba4f3 123 = .ok (.bipush 45, 2) := by decide +kernel
theorem dJ2_getChars_ba4f3_125 : decode cJ2_getChars_ba4f3 125 = .ok (.invokestatic 111, 3) := by decide +kernel
theorem dJ2_getChars_ba4f3_128 : decode cJ2_getChars_ba4f3 128 = .ok (.iload 5, 2) := by decide +kernel
theorem dJ2_getChars_ba4f3_130 : decode cJ2_getChars_ba4f3 130 = .ok (.ireturn, 1) := by decide +kernel
theorem dJ2_checkIndex_2214a_0 : decode cJ2_checkIndex_2214a 0 = .ok (.iload_n 0, 1) := by decide +kernel
theorem dJ2_checkIndex_2214a_1 : decode cJ2_checkIndex_2214a 1 = .ok (.aload_n 1, 1) := by decide +kernel
theorem dJ2_checkIndex_2214a_2 : decode cJ2_checkIndex_2214a 2 = .ok (.invokestatic 48, 3) := by decide +kernel
theorem dJ2_checkIndex_2214a_5 : decode cJ2_checkIndex_2214a 5 = .ok (.invokestatic 414, 3) := by decide +kernel
theorem dJ2_checkIndex_2214a_8 : decode cJ2_checkIndex_2214a 8 = .ok (.return_, 1) := by decide +kernel
theorem dJ2_checkBoundsBeginEnd_d044e_0 : decode cJ2_checkBoundsBeginEnd_d044e 0 = .ok (.iload_n 0, 1) := by decide +kernel
theorem dJ2_checkBoundsBeginEnd_d044e_1 : decode cJ2_checkBoundsBeginEnd_d044e 1 = .ok (.iload_n 1, 1) := by decide +kernel
theorem dJ2_checkBoundsBeginEnd_d044e_2 : decode cJ2_checkBoundsBeginEnd_d044e 2 = .ok (.aload_n 2, 1) := by decide +kernel
theorem dJ2_checkBoundsBeginEnd_d044e_3 : decode cJ2_checkBoundsBeginEnd_d044e 3 = .ok (.invokestatic 48, 3) := by decide +kernel
theorem dJ2_checkBoundsBeginEnd_d044e_6 : decode cJ2_checkBoundsBeginEnd_d044e 6 = .ok (.invokestatic 241, 3) := by decide +kernel
theorem dJ2_checkBoundsBeginEnd_d044e_9 : decode cJ2_checkBoundsBeginEnd_d044e 9 = .ok (.return_, 1) := by decide +kernel
theorem dJ2_checkBoundsOffCount_d044e_0 : decode cJ2_checkBoundsOffCount_d044e 0 = .ok (.iload_n 0, 1) := by decide +kernel
theorem dJ2_checkBoundsOffCount_d044e_1 : decode cJ2_checkBoundsOffCount_d044e 1 = .ok (.iload_n 1, 1) := by decide +kernel
theorem dJ2_checkBoundsOffCount_d044e_2 : decode cJ2_checkBoundsOffCount_d044e 2 = .ok (.aload_n 2, 1) := by decide +kernel
theorem dJ2_checkBoundsOffCount_d044e_3 : decode cJ2_checkBoundsOffCount_d044e 3 = .ok (.invokestatic 48, 3) := by decide +kernel
theorem dJ2_checkBoundsOffCount_d044e_6 : decode cJ2_checkBoundsOffCount_d044e 6 = .ok (.invokestatic 419, 3) := by decide +kernel
theorem dJ2_checkBoundsOffCount_d044e_9 : decode cJ2_checkBoundsOffCount_d044e 9 = .ok (.pop, 1) := by decide +kernel
theorem dJ2_checkBoundsOffCount_d044e_10 : decode cJ2_checkBoundsOffCount_d044e 10 = .ok (.return_, 1) := by decide +kernel
theorem dJ7_rangeCheck_23922_0 : decode cJ7_rangeCheck_23922 0 = .ok (.iload_n 1, 1) := by decide +kernel
theorem dJ7_rangeCheck_23922_1 : decode cJ7_rangeCheck_23922 1 = .ok (.iload_n 2, 1) := by decide +kernel
theorem dJ7_rangeCheck_23922_2 : decode cJ7_rangeCheck_23922 2 = .ok (.if_icmp .le 44, 3) := by decide +kernel
theorem dJ7_rangeCheck_23922_5 : decode cJ7_rangeCheck_23922 5 = .ok (.new 43, 3) := by decide +kernel
theorem dJ7_rangeCheck_23922_8 : decode cJ7_rangeCheck_23922 8 = .ok (.dup, 1) := by decide +kernel
theorem dJ7_rangeCheck_23922_9 : decode cJ7_rangeCheck_23922 9 = .ok (.new 45, 3) := by decide +kernel
theorem dJ7_rangeCheck_23922_12 : decode cJ7_rangeCheck_23922 12 = .ok (.dup, 1) := by decide +kernel
theorem dJ7_rangeCheck_23922_13 : decode cJ7_rangeCheck_23922 13 = .ok (.invokespecial 47, 3) := by decide +kernel
theorem dJ7_rangeCheck_23922_16 : decode cJ7_rangeCheck_23922 16 = .ok (.ldc 48, 2) := by decide +kernel
theorem dJ7_rangeCheck_23922_18 : decode cJ7_rangeCheck_23922 18 = .ok (.invokevirtual 50, 3) := by decide +kernel
theorem dJ7_rangeCheck_23922_21 : decode cJ7_rangeCheck_23922 21 = .ok (.iload_n 1, 1) := by decide +kernel
theorem dJ7_rangeCheck_23922_22 : decode cJ7_rangeCheck_23922 22 = .ok (.invokevirtual 54, 3) := by decide +kernel
theorem dJ7_rangeCheck_23922_25 : decode cJ7_rangeCheck_23922 25 = .ok (.ldc 57, 2) := by decide +kernel
theorem dJ7_rangeCheck_23922_27 : decode cJ7_rangeCheck_23922 27 = .ok (.invokevirtual 50, 3) := by decide +kernel
theorem dJ7_rangeCheck_23922_30 : decode cJ7_rangeCheck_23922 30 = .ok (.iload_n 2, 1) := by decide +kernel
theorem dJ7_rangeCheck_23922_31 : decode cJ7_rangeCheck_23922 31 = .ok (.invokevirtual 54, 3) := by decide +kernel
theorem dJ7_rangeCheck_23922_34 : decode cJ7_rangeCheck_23922 34 = .ok (.ldc 59, 2) := by decide +kernel
theorem dJ7_rangeCheck_23922_36 : decode cJ7_rangeCheck_23922 36 = .ok (.invokevirtual 50, 3) := by decide +kernel
theorem dJ7_rangeCheck_23922_39 : decode cJ7_rangeCheck_23922 39 = .ok (.invokevirtual 61, 3) := by decide +kernel
theorem dJ7_rangeCheck_23922_42 : decode cJ7_rangeCheck_23922 42 = .ok (.invokespecial 65, 3) := by decide +kernel
theorem dJ7_rangeCheck_23922_45 : decode cJ7_rangeCheck_23922 45 = .ok (.athrow, 1) := by decide +kernel
theorem dJ7_rangeCheck_23922_46 : decode cJ7_rangeCheck_23922 46 = .ok (.iload_n 1, 1) := by decide +kernel
theorem dJ7_rangeCheck_23922_47 : decode cJ7_rangeCheck_23922 47 = .ok (.ifCond .ge 12, 3) := by decide +kernel
theorem dJ7_rangeCheck_23922_50 : decode cJ7_rangeCheck_23922 50 = .ok (.new 68, 3) := by decide +kernel
theorem dJ7_rangeCheck_23922_53 : decode cJ7_rangeCheck_23922 53 = .ok (.dup, 1) := by decide +kernel
theorem dJ7_rangeCheck_23922_54 : decode cJ7_rangeCheck_23922 54 = .ok (.iload_n 1, 1) := by decide +kernel
theorem dJ7_rangeCheck_23922_55 : decode cJ7_rangeCheck_23922 55 = .ok (.invokespecial 70, 3) := by decide +kernel
theorem dJ7_rangeCheck_23922_58 : decode cJ7_rangeCheck_23922 58 = .ok (.athrow, 1) := by decide +kernel
theorem dJ7_rangeCheck_23922_59 : decode cJ7_rangeCheck_23922 59 = .ok (.iload_n 2, 1) := by decide +kernel
theorem dJ7_rangeCheck_23922_60 : decode cJ7_rangeCheck_23922 60 = .ok (.iload_n 0, 1) := by decide +kernel
theorem dJ7_rangeCheck_23922_61 : decode cJ7_rangeCheck_23922 61 = .ok (.if_icmp .le 12, 3) := by decide +kernel
theorem dJ7_rangeCheck_23922_64 : decode cJ7_rangeCheck_23922 64 = .ok (.new 68, 3) := by decide +kernel
theorem dJ7_rangeCheck_23922_67 : decode cJ7_rangeCheck_23922 67 = .ok (.dup, 1) := by decide +kernel
theorem dJ7_rangeCheck_23922_68 : decode cJ7_rangeCheck_23922 68 = .ok (.iload_n 2, 1) := by decide +kernel
theorem dJ7_rangeCheck_23922_69 : decode cJ7_rangeCheck_23922 69 = .ok (.invokespecial 70, 3) := by decide +kernel
theorem dJ7_rangeCheck_23922_72 : decode cJ7_rangeCheck_23922 72 = .ok (.athrow, 1) := by decide +kernel
theorem dJ7_rangeCheck_23922_73 : decode cJ7_rangeCheck_23922 73 = .ok (.return_, 1) := by decide +kernel
theorem dJ7_fill_eb02e_0 : decode cJ7_fill_eb02e 0 = .ok (.aload_n 0, 1) := by decide +kernel
theorem dJ7_fill_eb02e_1 : decode cJ7_fill_eb02e 1 = .ok (.arraylength, 1) := by decide +kernel
theorem dJ7_fill_eb02e_2 : decode cJ7_fill_eb02e 2 = .ok (.iload_n 1, 1) := by decide +kernel
theorem dJ7_fill_eb02e_3 : decode cJ7_fill_eb02e 3 = .ok (.iload_n 2, 1) := by decide +kernel
theorem dJ7_fill_eb02e_4 : decode cJ7_fill_eb02e 4 = .ok (.invokestatic 13, 3) := by decide +kernel
theorem dJ7_fill_eb02e_7 : decode cJ7_fill_eb02e 7 = .ok (.iload_n 1, 1) := by decide +kernel
theorem dJ7_fill_eb02e_8 : decode cJ7_fill_eb02e 8 = .ok (.istore 4, 2) := by decide +kernel
theorem dJ7_fill_eb02e_10 : decode cJ7_fill_eb02e 10 = .ok (.iload 4, 2) := by decide +kernel
theorem dJ7_fill_eb02e_12 : decode cJ7_fill_eb02e 12 = .ok (.iload_n 2, 1) := by decide +kernel
theorem dJ7_fill_eb02e_13 : decode cJ7_fill_eb02e 13 = .ok (.if_icmp .ge 14, 3) := by decide +kernel
theorem dJ7_fill_eb02e_16 : decode cJ7_fill_eb02e 16 = .ok (.aload_n 0, 1) := by decide +kernel
theorem dJ7_fill_eb02e_17 : decode cJ7_fill_eb02e 17 = .ok (.iload 4, 2) := by decide +kernel
theorem dJ7_fill_eb02e_19 : decode cJ7_fill_eb02e 19 = .ok (.iload_n 3, 1) := by decide +kernel
theorem dJ7_fill_eb02e_20 : decode cJ7_fill_eb02e 20 = .ok (.bastore, 1) := by decide +kernel
theorem dJ7_fill_eb02e_21 : decode cJ7_fill_eb02e 21 = .ok (.iinc 4 1, 3) := by decide +kernel
theorem dJ7_fill_eb02e_24 : decode cJ7_fill_eb02e 24 = .ok (.goto (-14), 3) := by decide +kernel
theorem dJ7_fill_eb02e_27 : decode cJ7_fill_eb02e 27 = .ok (.return_, 1) := by decide +kernel
theorem dJ7_copyOf_9075b_0 : decode cJ7_copyOf_9075b 0 = .ok (.iload_n 1, 1) := by decide +kernel
theorem dJ7_copyOf_9075b_1 : decode cJ7_copyOf_9075b 1 = .ok (.aload_n 0, 1) := by decide +kernel
theorem dJ7_copyOf_9075b_2 : decode cJ7_copyOf_9075b 2 = .ok (.arraylength, 1) := by decide +kernel
theorem dJ7_copyOf_9075b_3 : decode cJ7_copyOf_9075b 3 = .ok (.if_icmp .ne 11, 3) := by decide +kernel
theorem dJ7_copyOf_9075b_6 : decode cJ7_copyOf_9075b 6 = .ok (.aload_n 0, 1) := by decide +kernel
theorem dJ7_copyOf_9075b_7 : decode cJ7_copyOf_9075b 7 = .ok (.invokevirtual 310, 3) := by decide +kernel
theorem dJ7_copyOf_9075b_10 : decode cJ7_copyOf_9075b 10 = .ok (.checkcast 311, 3) := by decide +kernel
theorem dJ7_copyOf_9075b_13 : decode cJ7_copyOf_9075b 13 = .ok (.areturn, 1) := by decide +kernel
theorem dJ7_copyOf_9075b_14 : decode cJ7_copyOf_9075b 14 = .ok (.iload_n 1, 1) := by decide +kernel
theorem dJ7_copyOf_9075b_15 : decode cJ7_copyOf_9075b 15 = .ok (.newarray .byte, 2) := by decide +kernel
theorem dJ7_copyOf_9075b_17 : decode cJ7_copyOf_9075b 17 = .ok (.astore_n 2, 1) := by decide +kernel
theorem dJ7_copyOf_9075b_18 : decode cJ7_copyOf_9075b 18 = .ok (.aload_n 0, 1) := by decide +kernel
theorem dJ7_copyOf_9075b_19 : decode cJ7_copyOf_9075b 19 = .ok (.iconst 0, 1) := by decide +kernel
theorem dJ7_copyOf_9075b_20 : decode cJ7_copyOf_9075b 20 = .ok (.aload_n 2, 1) := by decide +kernel
theorem dJ7_copyOf_9075b_21 : decode cJ7_copyOf_9075b 21 = .ok (.iconst 0, 1) := by decide +kernel
theorem dJ7_copyOf_9075b_22 : decode cJ7_copyOf_9075b 22 = .ok (.aload_n 0, 1) := by decide +kernel
theorem dJ7_copyOf_9075b_23 : decode cJ7_copyOf_9075b 23 = .ok (.arraylength, 1) := by decide +kernel
theorem dJ7_copyOf_9075b_24 : decode cJ7_copyOf_9075b 24 = .ok (.iload_n 1, 1) := by decide +kernel
theorem dJ7_copyOf_9075b_25 : decode cJ7_copyOf_9075b 25 = .ok (.invokestatic 304, 3) := by decide +kernel
theorem dJ7_copyOf_9075b_28 : decode cJ7_copyOf_9075b 28 = .ok (.invokestatic 150, 3) := by decide +kernel
theorem dJ7_copyOf_9075b_31 : decode cJ7_copyOf_9075b 31 = .ok (.aload_n 2, 1) := by decide +kernel
theorem dJ7_copyOf_9075b_32 : decode cJ7_copyOf_9075b 32 = .ok (.areturn, 1) := by decide +kernel
theorem dJ7_checkLength_df160_0 : decode cJ7_checkLength_df160 0 = .ok (.iload_n 1, 1) := by decide +kernel
theorem dJ7_checkLength_df160_1 : decode cJ7_checkLength_df160 1 = .ok (.iload_n 0, 1) := by decide +kernel
theorem dJ7_checkLength_df160_2 : decode cJ7_checkLength_df160 2 = .ok (.if_icmp .ge 35, 3) := by decide +kernel
theorem dJ7_checkLength_df160_5 : decode cJ7_checkLength_df160 5 = .ok (.new 43, 3) := by decide +kernel
theorem dJ7_checkLength_df160_8 : decode cJ7_checkLength_df160 8 = .ok (.dup, 1) := by decide +kernel
theorem dJ7_checkLength_df160_9 : decode cJ7_checkLength_df160 9 = .ok (.new 45, 3) := by decide +kernel
theorem dJ7_checkLength_df160_12 : decode cJ7_checkLength_df160 12 = .ok (.dup, 1) := by decide +kernel
theorem dJ7_checkLength_df160_13 : decode cJ7_checkLength_df160 13 = .ok (.invokespecial 47, 3) := by decide +kernel
theorem dJ7_checkLength_df160_16 : decode cJ7_checkLength_df160 16 = .ok (.iload_n 0, 1) := by decide +kernel
theorem dJ7_checkLength_df160_17 : decode cJ7_checkLength_df160 17 = .ok (.invokevirtual 54, 3) := by decide +kernel
theorem dJ7_checkLength_df160_20 : decode cJ7_checkLength_df160 20 = .ok (.ldc_w 337, 3) := by decide +kernel
theorem dJ7_checkLength_df160_23 : decode cJ7_checkLength_df160 23 = .ok (.invokevirtual 50, 3) := by decide +kernel
theorem dJ7_checkLength_df160_26 : decode cJ7_checkLength_df160 26 = .ok (.iload_n 1, 1) := by decide +kernel
theorem dJ7_checkLength_df160_27 : decode cJ7_checkLength_df160 27 = .ok (.invokevirtual 54, 3) := by decide +kernel
theorem dJ7_checkLength_df160_30 : decode cJ7_checkLength_df160 30 = .ok (.invokevirtual 61, 3) := by decide +kernel
theorem dJ7_checkLength_df160_33 : decode cJ7_checkLength_df160 33 = .ok (.invokespecial 65, 3) := by decide +kernel
theorem dJ7_checkLength_df160_36 : decode cJ7_checkLength_df160 36 = .ok (.athrow, 1) := by decide +kernel
theorem dJ7_checkLength_df160_37 : decode cJ7_checkLength_df160 37 = .ok (.return_, 1) := by decide +kernel
theorem dJ7_copyOfRange_39247_0 : decode cJ7_copyOfRange_39247 0 = .ok (.iload_n 1, 1) := by decide +kernel
theorem dJ7_copyOfRange_39247_1 : decode cJ7_copyOfRange_39247 1 = .ok (.ifCond .ne 9, 3) := by decide +kernel
theorem dJ7_copyOfRange_39247_4 : decode cJ7_copyOfRange_39247 4 = .ok (.iload_n 2, 1) := by decide +kernel
theorem dJ7_copyOfRange_39247_5 : decode cJ7_copyOfRange_39247 5 = .ok (.aload_n 0, 1) := by decide +kernel
theorem dJ7_copyOfRange_39247_6 : decode cJ7_copyOfRange_39247 6 = .ok (.arraylength, 1) := by decide +kernel
theorem dJ7_copyOfRange_39247_7 : decode cJ7_copyOfRange_39247 7 = .ok (.if_icmp .eq 10, 3) := by decide +kernel
theorem dJ7_copyOfRange_39247_10 : decode cJ7_copyOfRange_39247 10 = .ok (.aload_n 0, 1) := by decide +kernel
theorem dJ7_copyOfRange_39247_11 : decode cJ7_copyOfRange_39247 11 = .ok (.iload_n 1, 1) := by decide +kernel
theorem dJ7_copyOfRange_39247_12 : decode cJ7_copyOfRange_39247 12 = .ok (.iload_n 2, 1) := by decide +kernel
theorem dJ7_copyOfRange_39247_13 : decode cJ7_copyOfRange_39247 13 = .ok (.invokestatic 339, 3) := by decide +kernel
theorem dJ7_copyOfRange_39247_16 : decode cJ7_copyOfRange_39247 16 = .ok (.areturn, 1) := by decide +kernel
theorem dJ7_copyOfRange_39247_17 : decode cJ7_copyOfRange_39247 17 = .ok (.aload_n 0, 1) := by decide +kernel
theorem dJ7_copyOfRange_39247_18 : decode cJ7_copyOfRange_39247 18 = .ok (.invokevirtual 310, 3) := by decide +kernel
theorem dJ7_copyOfRange_39247_21 : decode cJ7_copyOfRange_39247 21 = .ok (.checkcast 311, 3) := by decide +kernel
theorem dJ7_copyOfRange_39247_24 : decode cJ7_copyOfRange_39247 24 = .ok (.areturn, 1) := by decide +kernel
theorem dJ7_copyOfRangeByte_39247_0 : decode cJ7_copyOfRangeByte_39247 0 = .ok (.iload_n 1, 1) := by decide +kernel
theorem dJ7_copyOfRangeByte_39247_1 : decode cJ7_copyOfRangeByte_39247 1 = .ok (.iload_n 2, 1) := by decide +kernel
theorem dJ7_copyOfRangeByte_39247_2 : decode cJ7_copyOfRangeByte_39247 2 = .ok (.invokestatic 343, 3) := by decide +kernel
theorem dJ7_copyOfRangeByte_39247_5 : decode cJ7_copyOfRangeByte_39247 5 = .ok (.iload_n 2, 1) := by decide +kernel
theorem dJ7_copyOfRangeByte_39247_6 : decode cJ7_copyOfRangeByte_39247 6 = .ok (.iload_n 1, 1) := by decide +kernel
theorem dJ7_copyOfRangeByte_39247_7 : decode cJ7_copyOfRangeByte_39247 7 = .ok (.isub, 1) := by decide +kernel
theorem dJ7_copyOfRangeByte_39247_8 : decode cJ7_copyOfRangeByte_39247 8 = .ok (.istore_n 3, 1) := by decide +kernel
theorem dJ7_copyOfRangeByte_39247_9 : decode cJ7_copyOfRangeByte_39247 9 = .ok (.iload_n 3, 1) := by decide +kernel
theorem dJ7_copyOfRangeByte_39247_10 : decode cJ7_copyOfRangeByte_39247 10 = .ok (.newarray .byte, 2) := by decide +kernel
theorem dJ7_copyOfRangeByte_39247_12 : decode cJ7_copyOfRangeByte_39247 12 = .ok (.astore 4, 2) := by decide +kernel
theorem dJ7_copyOfRangeByte_39247_14 : decode cJ7_copyOfRangeByte_39247 14 = .ok (.aload_n 0, 1) := by decide +kernel
theorem dJ7_copyOfRangeByte_39247_15 : decode cJ7_copyOfRangeByte_39247 15 = .ok (.iload_n 1, 1) := by decide +kernel
theorem dJ7_copyOfRangeByte_39247_16 : decode cJ7_copyOfRangeByte_39247 16 = .ok (.aload 4, 2) := by decide +kernel
theorem dJ7_copyOfRangeByte_39247_18 : decode cJ7_copyOfRangeByte_39247 18 = .ok (.iconst 0, 1) := by decide +kernel
theorem dJ7_copyOfRangeByte_39247_19 : decode cJ7_copyOfRangeByte_39247 19 = .ok (.aload_n 0, 1) := by decide +kernel
theorem dJ7_copyOfRangeByte_39247_20 : decode cJ7_copyOfRangeByte_39247 20 = .ok (.arraylength, 1) := by decide +kernel
theorem dJ7_copyOfRangeByte_39247_21 : decode cJ7_copyOfRangeByte_39247 21 = .ok (.iload_n 1, 1) := by decide +kernel
theorem dJ7_copyOfRangeByte_39247_22 : decode cJ7_copyOfRangeByte_39247 22 = .ok (.isub, 1) := by decide +kernel
theorem dJ7_copyOfRangeByte_39247_23 : decode cJ7_copyOfRangeByte_39247 23 = .ok (.iload_n 3, 1) := by decide +kernel
theorem dJ7_copyOfRangeByte_39247_24 : decode cJ7_copyOfRangeByte_39247 24 = .ok (.invokestatic 304, 3) := by decide +kernel
theorem dJ7_copyOfRangeByte_39247_27 : decode cJ7_copyOfRangeByte_39247 27 = .ok (.invokestatic 150, 3) := by decide +kernel
theorem dJ7_copyOfRangeByte_39247_30 : decode cJ7_copyOfRangeByte_39247 30 = .ok (.aload 4, 2) := by decide +kernel
theorem dJ7_copyOfRangeByte_39247_32 : decode cJ7_copyOfRangeByte_39247 32 = .ok (.areturn, 1) := by decide +kernel
theorem dJ8_newLength_cabcc_0 : decode cJ8_newLength_cabcc 0 = .ok (.iload_n 0, 1) := by decide +kernel
theorem dJ8_newLength_cabcc_1 : decode cJ8_newLength_cabcc 1 = .ok (.iload_n 1, 1) := by decide +kernel
theorem dJ8_newLength_cabcc_2 : decode cJ8_newLength_cabcc 2 = .ok (.iload_n 2, 1) := by decide +kernel
theorem dJ8_newLength_cabcc_3 : decode cJ8_newLength_cabcc 3 = .ok (.invokestatic 194, 3) := by decide +kernel
theorem dJ8_newLength_cabcc_6 : decode cJ8_newLength_cabcc 6 = .ok (.iadd, 1) := by decide +kernel
theorem dJ8_newLength_cabcc_7 : decode cJ8_newLength_cabcc 7 = .ok (.istore_n 3, 1) := by decide +kernel
theorem dJ8_newLength_cabcc_8 : decode cJ8_newLength_cabcc 8 = .ok (.iconst 0, 1) := by decide +kernel
theorem dJ8_newLength_cabcc_9 : decode cJ8_newLength_cabcc 9 = .ok (.iload_n 3, 1) := by decide +kernel
theorem dJ8_newLength_cabcc_10 : decode cJ8_newLength_cabcc 10 = .ok (.if_icmp .ge 11, 3) := by decide +kernel
theorem dJ8_newLength_cabcc_13 : decode cJ8_newLength_cabcc 13 = .ok (.iload_n 3, 1) := by decide +kernel
theorem dJ8_newLength_cabcc_14 : decode cJ8_newLength_cabcc 14 = .ok (.ldc 200, 2) := by decide +kernel
theorem dJ8_newLength_cabcc_16 : decode cJ8_newLength_cabcc 16 = .ok (.if_icmp .gt 5, 3) := by decide +kernel
theorem dJ8_newLength_cabcc_19 : decode cJ8_newLength_cabcc 19 = .ok (.iload_n 3, 1) := by decide +kernel
theorem dJ8_newLength_cabcc_20 : decode cJ8_newLength_cabcc 20 = .ok (.ireturn, 1) := by decide +kernel
theorem dJ8_newLength_cabcc_21 : decode cJ8_newLength_cabcc 21 = .ok (.iload_n 0, 1) := by decide +kernel
theorem dJ8_newLength_cabcc_22 : decode cJ8_newLength_cabcc 22 = .ok (.iload_n 1, 1) := by decide +kernel
theorem dJ8_newLength_cabcc_23 : decode cJ8_newLength_cabcc 23 = .ok (.invokestatic 201, 3) := by decide +kernel
theorem dJ8_newLength_cabcc_26 : decode cJ8_newLength_cabcc 26 = .ok (.ireturn, 1) := by decide +kernel
theorem dJ8_hugeLength_7cf53_0 : decode cJ8_hugeLength_7cf53 0 = .ok (.iload_n 0, 1) := by decide +kernel
theorem dJ8_hugeLength_7cf53_1 : decode cJ8_hugeLength_7cf53 1 = .ok (.iload_n 1, 1) := by decide +kernel
theorem dJ8_hugeLength_7cf53_2 : decode cJ8_hugeLength_7cf53 2 = .ok (.iadd, 1) := by decide +kernel
theorem dJ8_hugeLength_7cf53_3 : decode cJ8_hugeLength_7cf53 3 = .ok (.istore_n 2, 1) := by decide +kernel
theorem dJ8_hugeLength_7cf53_4 : decode cJ8_hugeLength_7cf53 4 = .ok (.iload_n 2, 1) := by decide +kernel
theorem dJ8_hugeLength_7cf53_5 : decode cJ8_hugeLength_7cf53 5 = .ok (.ifCond .ge 44, 3) := by decide +kernel
theorem dJ8_hugeLength_7cf53_8 : decode cJ8_hugeLength_7cf53 8 = .ok (.new 204, 3) := by decide +kernel
theorem dJ8_hugeLength_7cf53_11 : decode cJ8_hugeLength_7cf53 11 = .ok (.dup, 1) := by decide +kernel
theorem dJ8_hugeLength_7cf53_12 : decode cJ8_hugeLength_7cf53 12 = .ok (.new 89, 3) := by decide +kernel
theorem dJ8_hugeLength_7cf53_15 : decode cJ8_hugeLength_7cf53 15 = .ok (.dup, 1) := by decide +kernel
theorem dJ8_hugeLength_7cf53_16 : decode cJ8_hugeLength_7cf53 16 = .ok (.invokespecial 91, 3) := by decide +kernel
theorem dJ8_hugeLength_7cf53_19 : decode cJ8_hugeLength_7cf53 19 = .ok (.ldc 206, 2) := by decide +kernel
theorem dJ8_hugeLength_7cf53_21 : decode cJ8_hugeLength_7cf53 21 = .ok (.invokevirtual 94, 3) := by decide +kernel
theorem dJ8_hugeLength_7cf53_24 : decode cJ8_hugeLength_7cf53 24 = .ok (.iload_n 0, 1) := by decide +kernel
theorem dJ8_hugeLength_7cf53_25 : decode cJ8_hugeLength_7cf53 25 = .ok (.invokevirtual 98, 3) := by decide +kernel
theorem dJ8_hugeLength_7cf53_28 : decode cJ8_hugeLength_7cf53 28 = .ok (.ldc 208, 2) := by decide +kernel
theorem dJ8_hugeLength_7cf53_30 : decode cJ8_hugeLength_7cf53 30 = .ok (.invokevirtual 94, 3) := by decide +kernel
theorem dJ8_hugeLength_7cf53_33 : decode cJ8_hugeLength_7cf53 33 = .ok (.iload_n 1, 1) := by decide +kernel
theorem dJ8_hugeLength_7cf53_34 : decode cJ8_hugeLength_7cf53 34 = .ok (.invokevirtual 98, 3) := by decide +kernel
theorem dJ8_hugeLength_7cf53_37 : decode cJ8_hugeLength_7cf53 37 = .ok (.ldc 210, 2) := by decide +kernel
theorem dJ8_hugeLength_7cf53_39 : decode cJ8_hugeLength_7cf53 39 = .ok (.invokevirtual 94, 3) := by decide +kernel
theorem dJ8_hugeLength_7cf53_42 : decode cJ8_hugeLength_7cf53 42 = .ok (.invokevirtual 101, 3) := by decide +kernel
theorem dJ8_hugeLength_7cf53_45 : decode cJ8_hugeLength_7cf53 45 = .ok (.invokespecial 212, 3) := by decide +kernel
theorem dJ8_hugeLength_7cf53_48 : decode cJ8_hugeLength_7cf53 48 = .ok (.athrow, 1) := by decide +kernel
theorem dJ8_hugeLength_7cf53_49 : decode cJ8_hugeLength_7cf53 49 = .ok (.iload_n 2, 1) := by decide +kernel
theorem dJ8_hugeLength_7cf53_50 : decode cJ8_hugeLength_7cf53 50 = .ok (.ldc 200, 2) := by decide +kernel
theorem dJ8_hugeLength_7cf53_52 : decode cJ8_hugeLength_7cf53 52 = .ok (.if_icmp .gt 6, 3) := by decide +kernel
theorem dJ8_hugeLength_7cf53_55 : decode cJ8_hugeLength_7cf53 55 = .ok (.ldc 200, 2) := by decide +kernel
theorem dJ8_hugeLength_7cf53_57 : decode cJ8_hugeLength_7cf53 57 = .ok (.ireturn, 1) := by decide +kernel
theorem dJ8_hugeLength_7cf53_58 : decode cJ8_hugeLength_7cf53 58 = .ok (.iload_n 2, 1) := by decide +kernel
theorem dJ8_hugeLength_7cf53_59 : decode cJ8_hugeLength_7cf53 59 = .ok (.ireturn, 1) := by decide +kernel
theorem dJ3_checkIndex_8e157_0 : decode cJ3_checkIndex_8e157 0 = .ok (.iload_n 0, 1) := by decide +kernel
theorem dJ3_checkIndex_8e157_1 : decode cJ3_checkIndex_8e157 1 = .ok (.ifCond .lt 8, 3) := by decide +kernel
theorem dJ3_checkIndex_8e157_4 : decode cJ3_checkIndex_8e157 4 = .ok (.iload_n 0, 1) := by decide +kernel
theorem dJ3_checkIndex_8e157_5 : decode cJ3_checkIndex_8e157 5 = .ok (.iload_n 1, 1) := by decide +kernel
theorem dJ3_checkIndex_8e157_6 : decode cJ3_checkIndex_8e157 6 = .ok (.if_icmp .lt 10, 3) := by decide +kernel
theorem dJ3_checkIndex_8e157_9 : decode cJ3_checkIndex_8e157 9 = .ok (.aload_n 2, 1) := by decide +kernel
theorem dJ3_checkIndex_8e157_10 : decode cJ3_checkIndex_8e157 10 = .ok (.iload_n 0, 1) := by decide +kernel
theorem dJ3_checkIndex_8e157_11 : decode cJ3_checkIndex_8e157 11 = .ok (.iload_n 1, 1) := by decide +kernel
theorem dJ3_checkIndex_8e157_12 : decode cJ3_checkIndex_8e157 12 = .ok (.invokestatic 95, 3) := by decide +kernel
theorem dJ3_checkIndex_8e157_15 : decode cJ3_checkIndex_8e157 15 = .ok (.athrow, 1) := by decide +kernel
theorem dJ3_checkIndex_8e157_16 : decode cJ3_checkIndex_8e157 16 = .ok (.iload_n 0, 1) := by decide +kernel
theorem dJ3_checkIndex_8e157_17 : decode cJ3_checkIndex_8e157 17 = .ok (.ireturn, 1) := by decide +kernel
theorem dJ3_checkFromToIndex_8c36e_0 : decode cJ3_checkFromToIndex_8c36e 0 = .ok (.iload_n 0, 1) := by decide +kernel
theorem dJ3_checkFromToIndex_8c36e_1 : decode cJ3_checkFromToIndex_8c36e 1 = .ok (.ifCond .lt 13, 3) := by decide +kernel
theorem dJ3_checkFromToIndex_8c36e_4 : decode cJ3_checkFromToIndex_8c36e 4 = .ok (.iload_n 0, 1) := by decide +kernel
theorem dJ3_checkFromToIndex_8c36e_5 : decode cJ3_checkFromToIndex_8c36e 5 = .ok (.iload_n 1, 1) := by decide +kernel
theorem dJ3_checkFromToIndex_8c36e_6 : decode cJ3_checkFromToIndex_8c36e 6 = .ok (.if_icmp .gt 8, 3) := by decide +kernel
theorem dJ3_checkFromToIndex_8c36e_9 : decode cJ3_checkFromToIndex_8c36e 9 = .ok (.iload_n 1, 1) := by decide +kernel
theorem dJ3_checkFromToIndex_8c36e_10 : decode cJ3_checkFromToIndex_8c36e 10 = .ok (.iload_n 2, 1) := by decide +kernel
theorem dJ3_checkFromToIndex_8c36e_11 : decode cJ3_checkFromToIndex_8c36e 11 = .ok (.if_icmp .le 11, 3) := by decide +kernel
theorem dJ3_checkFromToIndex_8c36e_14 : decode cJ3_checkFromToIndex_8c36e 14 = .ok (.aload_n 3, 1) := by decide +kernel
theorem dJ3_checkFromToIndex_8c36e_15 : decode cJ3_checkFromToIndex_8c36e 15 = .ok (.iload_n 0, 1) := by decide +kernel
theorem dJ3_checkFromToIndex_8c36e_16 : decode cJ3_checkFromToIndex_8c36e 16 = .ok (.iload_n 1, 1) := by decide +kernel
theorem dJ3_checkFromToIndex_8c36e_17 : decode cJ3_checkFromToIndex_8c36e 17 = .ok (.iload_n 2, 1) := by decide +kernel
theorem dJ3_checkFromToIndex_8c36e_18 : decode cJ3_checkFromToIndex_8c36e 18 = .ok (.invokestatic 99, 3) := by decide +kernel
theorem dJ3_checkFromToIndex_8c36e_21 : decode cJ3_checkFromToIndex_8c36e 21 = .ok (.athrow, 1) := by decide +kernel
theorem dJ3_checkFromToIndex_8c36e_22 : decode cJ3_checkFromToIndex_8c36e 22 = .ok (.iload_n 0, 1) := by decide +kernel
theorem dJ3_checkFromToIndex_8c36e_23 : decode cJ3_checkFromToIndex_8c36e 23 = .ok (.ireturn, 1) := by decide +kernel
theorem dJ3_checkFromIndexSize_8c36e_0 : decode cJ3_checkFromIndexSize_8c36e 0 = .ok (.iload_n 2, 1) := by decide +kernel
theorem dJ3_checkFromIndexSize_8c36e_1 : decode cJ3_checkFromIndexSize_8c36e 1 = .ok (.iload_n 0, 1) := by decide +kernel
theorem dJ3_checkFromIndexSize_8c36e_2 : decode cJ3_checkFromIndexSize_8c36e 2 = .ok (.ior, 1) := by decide +kernel
theorem dJ3_checkFromIndexSize_8c36e_3 : decode cJ3_checkFromIndexSize_8c36e 3 = .ok (.iload_n 1, 1) := by decide +kernel
theorem dJ3_checkFromIndexSize_8c36e_4 : decode cJ3_checkFromIndexSize_8c36e 4 = .ok (.ior, 1) := by decide +kernel
theorem dJ3_checkFromIndexSize_8c36e_5 : decode cJ3_checkFromIndexSize_8c36e 5 = .ok (.ifCond .lt 10, 3) := by decide +kernel
theorem dJ3_checkFromIndexSize_8c36e_8 : decode cJ3_checkFromIndexSize_8c36e 8 = .ok (.iload_n 1, 1) := by decide +kernel
theorem dJ3_checkFromIndexSize_8c36e_9 : decode cJ3_checkFromIndexSize_8c36e 9 = .ok (.iload_n 2, 1) := by decide +kernel
theorem dJ3_checkFromIndexSize_8c36e_10 : decode cJ3_checkFromIndexSize_8c36e 10 = .ok (.iload_n 0, 1) := by decide +kernel
theorem dJ3_checkFromIndexSize_8c36e_11 : decode cJ3_checkFromIndexSize_8c36e 11 = .ok (.isub, 1) := by decide +kernel
theorem dJ3_checkFromIndexSize_8c36e_12 : decode cJ3_checkFromIndexSize_8c36e 12 = .ok (.if_icmp .le 11, 3) := by decide +kernel
theorem dJ3_checkFromIndexSize_8c36e_15 : decode cJ3_checkFromIndexSize_8c36e 15 = .ok (.aload_n 3, 1) := by decide +kernel
theorem dJ3_checkFromIndexSize_8c36e_16 : decode cJ3_checkFromIndexSize_8c36e 16 = .ok (.iload_n 0, 1) := by decide +kernel
theorem dJ3_checkFromIndexSize_8c36e_17 : decode cJ3_checkFromIndexSize_8c36e 17 = .ok (.iload_n 1, 1) := by decide +kernel
theorem dJ3_checkFromIndexSize_8c36e_18 : decode cJ3_checkFromIndexSize_8c36e 18 = .ok (.iload_n 2, 1) := by decide +kernel
theorem dJ3_checkFromIndexSize_8c36e_19 : decode cJ3_checkFromIndexSize_8c36e 19 = .ok (.invokestatic 103, 3) := by decide +kernel
theorem dJ3_checkFromIndexSize_8c36e_22 : decode cJ3_checkFromIndexSize_8c36e 22 = .ok (.athrow, 1) := by decide +kernel
theorem dJ3_checkFromIndexSize_8c36e_23 : decode cJ3_checkFromIndexSize_8c36e 23 = .ok (.iload_n 0, 1) := by decide +kernel
theorem dJ3_checkFromIndexSize_8c36e_24 : decode cJ3_checkFromIndexSize_8c36e 24 = .ok (.ireturn, 1) := by decide +kernel
theorem dL_draw_0 : decode cL_draw 0 = .ok (.iload_n 1, 1) := by decide +kernel
theorem dL_draw_1 : decode cL_draw 1 = .ok (.aload_n 0, 1) := by decide +kernel
theorem dL_draw_2 : decode cL_draw 2 = .ok (.arraylength, 1) := by decide +kernel
theorem dL_draw_3 : decode cL_draw 3 = .ok (.if_icmp .ge 9, 3) := by decide +kernel
theorem dL_draw_6 : decode cL_draw 6 = .ok (.aload_n 0, 1) := by decide +kernel
theorem dL_draw_7 : decode cL_draw 7 = .ok (.iload_n 1, 1) := by decide +kernel
theorem dL_draw_8 : decode cL_draw 8 = .ok (.iaload, 1) := by decide +kernel
theorem dL_draw_9 : decode cL_draw 9 = .ok (.goto 14, 3) := by decide +kernel
theorem dL_draw_12 : decode cL_draw 12 = .ok (.ldc 7, 2) := by decide +kernel
theorem dL_draw_14 : decode cL_draw 14 = .ok (.iload_n 1, 1) := by decide +kernel
theorem dL_draw_15 : decode cL_draw 15 = .ok (.sipush 619, 3) := by decide +kernel
theorem dL_draw_18 : decode cL_draw 18 = .ok (.iadd, 1) := by decide +kernel
theorem dL_draw_19 : decode cL_draw 19 = .ok (.imul, 1) := by decide +kernel
theorem dL_draw_20 : decode cL_draw 20 = .ok (.ldc 8, 2) := by decide +kernel
theorem dL_draw_22 : decode cL_draw 22 = .ok (.iadd, 1) := by decide +kernel
theorem dL_draw_23 : decode cL_draw 23 = .ok (.istore_n 3, 1) := by decide +kernel
theorem dL_draw_24 : decode cL_draw 24 = .ok (.iload_n 3, 1) := by decide +kernel
theorem dL_draw_25 : decode cL_draw 25 = .ok (.ldc 9, 2) := by decide +kernel
theorem dL_draw_27 : decode cL_draw 27 = .ok (.iand, 1) := by decide +kernel
theorem dL_draw_28 : decode cL_draw 28 = .ok (.iload_n 2, 1) := by decide +kernel
theorem dL_draw_29 : decode cL_draw 29 = .ok (.irem, 1) := by decide +kernel
theorem dL_draw_30 : decode cL_draw 30 = .ok (.ireturn, 1) := by decide +kernel
theorem dL_asks_0 : decode cL_asks 0 = .ok (.iload_n 1, 1) := by decide +kernel
theorem dL_asks_1 : decode cL_asks 1 = .ok (.ifCond .ne 11, 3) := by decide +kernel
theorem dL_asks_4 : decode cL_asks 4 = .ok (.aload_n 0, 1) := by decide +kernel
theorem dL_asks_5 : decode cL_asks 5 = .ok (.iload_n 2, 1) := by decide +kernel
theorem dL_asks_6 : decode cL_asks 6 = .ok (.invokevirtual 10, 3) := by decide +kernel
theorem dL_asks_9 : decode cL_asks 9 = .ok (.goto 88, 3) := by decide +kernel
theorem dL_asks_12 : decode cL_asks 12 = .ok (.iload_n 1, 1) := by decide +kernel
theorem dL_asks_13 : decode cL_asks 13 = .ok (.iconst 1, 1) := by decide +kernel
theorem dL_asks_14 : decode cL_asks 14 = .ok (.if_icmp .ne 10, 3) := by decide +kernel
theorem dL_asks_17 : decode cL_asks 17 = .ok (.aload_n 0, 1) := by decide +kernel
theorem dL_asks_18 : decode cL_asks 18 = .ok (.invokevirtual 16, 3) := by decide +kernel
theorem dL_asks_21 : decode cL_asks 21 = .ok (.goto 76, 3) := by decide +kernel
theorem dL_asks_24 : decode cL_asks 24 = .ok (.iload_n 1, 1) := by decide +kernel
theorem dL_asks_25 : decode cL_asks 25 = .ok (.iconst 2, 1) := by decide +kernel
theorem dL_asks_26 : decode cL_asks 26 = .ok (.if_icmp .ne 11, 3) := by decide +kernel
theorem dL_asks_29 : decode cL_asks 29 = .ok (.aload_n 0, 1) := by decide +kernel
theorem dL_asks_30 : decode cL_asks 30 = .ok (.iload_n 2, 1) := by decide +kernel
theorem dL_asks_31 : decode cL_asks 31 = .ok (.invokevirtual 20, 3) := by decide +kernel
theorem dL_asks_34 : decode cL_asks 34 = .ok (.goto 63, 3) := by decide +kernel
theorem dL_asks_37 : decode cL_asks 37 = .ok (.iload_n 1, 1) := by decide +kernel
theorem dL_asks_38 : decode cL_asks 38 = .ok (.iconst 3, 1) := by decide +kernel
theorem dL_asks_39 : decode cL_asks 39 = .ok (.if_icmp .ne 10, 3) := by decide +kernel
theorem dL_asks_42 : decode cL_asks 42 = .ok (.aload_n 0, 1) := by decide +kernel
theorem dL_asks_43 : decode cL_asks 43 = .ok (.invokevirtual 23, 3) := by decide +kernel
theorem dL_asks_46 : decode cL_asks 46 = .ok (.goto 51, 3) := by decide +kernel
theorem dL_asks_49 : decode cL_asks 49 = .ok (.iload_n 1, 1) := by decide +kernel
theorem dL_asks_50 : decode cL_asks 50 = .ok (.iconst 4, 1) := by decide +kernel
theorem dL_asks_51 : decode cL_asks 51 = .ok (.if_icmp .ne 12, 3) := by decide +kernel
theorem dL_asks_54 : decode cL_asks 54 = .ok (.aload_n 0, 1) := by decide +kernel
theorem dL_asks_55 : decode cL_asks 55 = .ok (.iload_n 2, 1) := by decide +kernel
theorem dL_asks_56 : decode cL_asks 56 = .ok (.iload_n 3, 1) := by decide +kernel
theorem dL_asks_57 : decode cL_asks 57 = .ok (.invokevirtual 26, 3) := by decide +kernel
theorem dL_asks_60 : decode cL_asks 60 = .ok (.goto 37, 3) := by decide +kernel
theorem dL_asks_63 : decode cL_asks 63 = .ok (.iload_n 1, 1) := by decide +kernel
theorem dL_asks_64 : decode cL_asks 64 = .ok (.iconst 5, 1) := by decide +kernel
theorem dL_asks_65 : decode cL_asks 65 = .ok (.if_icmp .ne 12, 3) := by decide +kernel
theorem dL_asks_68 : decode cL_asks 68 = .ok (.aload_n 0, 1) := by decide +kernel
theorem dL_asks_69 : decode cL_asks 69 = .ok (.iload_n 2, 1) := by decide +kernel
theorem dL_asks_70 : decode cL_asks 70 = .ok (.iload_n 3, 1) := by decide +kernel
theorem dL_asks_71 : decode cL_asks 71 = .ok (.invokevirtual 30, 3) := by decide +kernel
theorem dL_asks_74 : decode cL_asks 74 = .ok (.goto 23, 3) := by decide +kernel
theorem dL_asks_77 : decode cL_asks 77 = .ok (.iload_n 1, 1) := by decide +kernel
theorem dL_asks_78 : decode cL_asks 78 = .ok (.bipush 6, 2) := by decide +kernel
theorem dL_asks_80 : decode cL_asks 80 = .ok (.if_icmp .ne 12, 3) := by decide +kernel
theorem dL_asks_83 : decode cL_asks 83 = .ok (.aload_n 0, 1) := by decide +kernel
theorem dL_asks_84 : decode cL_asks 84 = .ok (.iload_n 2, 1) := by decide +kernel
theorem dL_asks_85 : decode cL_asks 85 = .ok (.iload_n 3, 1) := by decide +kernel
theorem dL_asks_86 : decode cL_asks 86 = .ok (.invokevirtual 33, 3) := by decide +kernel
theorem dL_asks_89 : decode cL_asks 89 = .ok (.goto 8, 3) := by decide +kernel
theorem dL_asks_92 : decode cL_asks 92 = .ok (.aload_n 0, 1) := by decide +kernel
theorem dL_asks_93 : decode cL_asks 93 = .ok (.iload_n 2, 1) := by decide +kernel
theorem dL_asks_94 : decode cL_asks 94 = .ok (.invokevirtual 36, 3) := by decide +kernel
theorem dL_asks_97 : decode cL_asks 97 = .ok (.ireturn, 1) := by decide +kernel
theorem dL_asks_98 : decode cL_asks 98 = .ok (.astore 4, 2) := by decide +kernel
theorem dL_asks_100 : decode cL_asks 100 = .ok (.ldc 41, 2) := by decide +kernel
theorem dL_asks_102 : decode cL_asks 102 = .ok (.ireturn, 1) := by decide +kernel
theorem dL_asks_103 : decode cL_asks 103 = .ok (.astore 4, 2) := by decide +kernel
theorem dL_asks_105 : decode cL_asks 105 = .ok (.ldc 44, 2) := by decide +kernel
theorem dL_asks_107 : decode cL_asks 107 = .ok (.ireturn, 1) := by decide +kernel
theorem dL_asks_108 : decode cL_asks 108 = .ok (.astore 4, 2) := by decide +kernel
theorem dL_asks_110 : decode cL_asks 110 = .ok (.ldc 47, 2) := by decide +kernel
theorem dL_asks_112 : decode cL_asks 112 = .ok (.ireturn, 1) := by decide +kernel
theorem dL_plans_0 : decode cL_plans 0 = .ok (.aload_n 0, 1) := by decide +kernel
theorem dL_plans_1 : decode cL_plans 1 = .ok (.iload_n 1, 1) := by decide +kernel
theorem dL_plans_2 : decode cL_plans 2 = .ok (.invokevirtual 48, 3) := by decide +kernel
theorem dL_plans_5 : decode cL_plans 5 = .ok (.ireturn, 1) := by decide +kernel
theorem dL_plans_6 : decode cL_plans 6 = .ok (.astore_n 2, 1) := by decide +kernel
theorem dL_plans_7 : decode cL_plans 7 = .ok (.ldc 54, 2) := by decide +kernel
theorem dL_plans_9 : decode cL_plans 9 = .ok (.ireturn, 1) := by decide +kernel
theorem dL_plans_10 : decode cL_plans 10 = .ok (.astore_n 2, 1) := by decide +kernel
theorem dL_plans_11 : decode cL_plans 11 = .ok (.ldc 47, 2) := by decide +kernel
theorem dL_plans_13 : decode cL_plans 13 = .ok (.ireturn, 1) := by decide +kernel
theorem dL_types_0 : decode cL_types 0 = .ok (.iconst 0, 1) := by decide +kernel
theorem dL_types_1 : decode cL_types 1 = .ok (.istore 8, 2) := by decide +kernel
theorem dL_types_3 : decode cL_types 3 = .ok (.iload 8, 2) := by decide +kernel
theorem dL_types_5 : decode cL_types 5 = .ok (.bipush 7, 2) := by decide +kernel
theorem dL_types_7 : decode cL_types 7 = .ok (.if_icmp .ge 88, 3) := by decide +kernel
theorem dL_types_10 : decode cL_types 10 = .ok (.iload 8, 2) := by decide +kernel
theorem dL_types_12 : decode cL_types 12 = .ok (.ifCond .ne 7, 3) := by decide +kernel
theorem dL_types_15 : decode cL_types 15 = .ok (.iload_n 1, 1) := by decide +kernel
theorem dL_types_16 : decode cL_types 16 = .ok (.goto 58, 3) := by decide +kernel
theorem dL_types_19 : decode cL_types 19 = .ok (.iload 8, 2) := by decide +kernel
theorem dL_types_21 : decode cL_types 21 = .ok (.iconst 1, 1) := by decide +kernel
theorem dL_types_22 : decode cL_types 22 = .ok (.if_icmp .ne 7, 3) := by decide +kernel
theorem dL_types_25 : decode cL_types 25 = .ok (.iload_n 2, 1) := by decide +kernel
theorem dL_types_26 : decode cL_types 26 = .ok (.goto 48, 3) := by decide +kernel
theorem dL_types_29 : decode cL_types 29 = .ok (.iload 8, 2) := by decide +kernel
theorem dL_types_31 : decode cL_types 31 = .ok (.iconst 2, 1) := by decide +kernel
theorem dL_types_32 : decode cL_types 32 = .ok (.if_icmp .ne 7, 3) := by decide +kernel
theorem dL_types_35 : decode cL_types 35 = .ok (.iload_n 3, 1) := by decide +kernel
theorem dL_types_36 : decode cL_types 36 = .ok (.goto 38, 3) := by decide +kernel
theorem dL_types_39 : decode cL_types 39 = .ok (.iload 8, 2) := by decide +kernel
theorem dL_types_41 : decode cL_types 41 = .ok (.iconst 3, 1) := by decide +kernel
theorem dL_types_42 : decode cL_types 42 = .ok (.if_icmp .ne 8, 3) := by decide +kernel
theorem dL_types_45 : decode cL_types 45 = .ok (.iload 4, 2) := by decide +kernel
theorem dL_types_47 : decode cL_types 47 = .ok (.goto 27, 3) := by decide +kernel
theorem dL_types_50 : decode cL_types 50 = .ok (.iload 8, 2) := by decide +kernel
theorem dL_types_52 : decode cL_types 52 = .ok (.iconst 4, 1) := by decide +kernel
theorem dL_types_53 : decode cL_types 53 = .ok (.if_icmp .ne 8, 3) := by decide +kernel
theorem dL_types_56 : decode cL_types 56 = .ok (.iload 5, 2) := by decide +kernel
theorem dL_types_58 : decode cL_types 58 = .ok (.goto 16, 3) := by decide +kernel
theorem dL_types_61 : decode cL_types 61 = .ok (.iload 8, 2) := by decide +kernel
theorem dL_types_63 : decode cL_types 63 = .ok (.iconst 5, 1) := by decide +kernel
theorem dL_types_64 : decode cL_types 64 = .ok (.if_icmp .ne 8, 3) := by decide +kernel
theorem dL_types_67 : decode cL_types 67 = .ok (.iload 6, 2) := by decide +kernel
theorem dL_types_69 : decode cL_types 69 = .ok (.goto 5, 3) := by decide +kernel
theorem dL_types_72 : decode cL_types 72 = .ok (.iload 7, 2) := by decide +kernel
theorem dL_types_74 : decode cL_types 74 = .ok (.istore 9, 2) := by decide +kernel
theorem dL_types_76 : decode cL_types 76 = .ok (.iload 9, 2) := by decide +kernel
theorem dL_types_78 : decode cL_types 78 = .ok (.ifCond .le 11, 3) := by decide +kernel
theorem dL_types_81 : decode cL_types 81 = .ok (.aload_n 0, 1) := by decide +kernel
theorem dL_types_82 : decode cL_types 82 = .ok (.iload 9, 2) := by decide +kernel
theorem dL_types_84 : decode cL_types 84 = .ok (.i2c, 1) := by decide +kernel
theorem dL_types_85 : decode cL_types 85 = .ok (.invokevirtual 55, 3) := by decide +kernel
theorem dL_types_88 : decode cL_types 88 = .ok (.pop, 1) := by decide +kernel
theorem dL_types_89 : decode cL_types 89 = .ok (.iinc 8 1, 3) := by decide +kernel
theorem dL_types_92 : decode cL_types 92 = .ok (.goto (-89), 3) := by decide +kernel
theorem dL_types_95 : decode cL_types 95 = .ok (.return_, 1) := by decide +kernel
theorem dL_figures_0 : decode cL_figures 0 = .ok (.aload_n 0, 1) := by decide +kernel
theorem dL_figures_1 : decode cL_figures 1 = .ok (.iload_n 1, 1) := by decide +kernel
theorem dL_figures_2 : decode cL_figures 2 = .ok (.bipush 9, 2) := by decide +kernel
theorem dL_figures_4 : decode cL_figures 4 = .ok (.if_icmp .le 13, 3) := by decide +kernel
theorem dL_figures_7 : decode cL_figures 7 = .ok (.bipush 48, 2) := by decide +kernel
theorem dL_figures_9 : decode cL_figures 9 = .ok (.iload_n 1, 1) := by decide +kernel
theorem dL_figures_10 : decode cL_figures 10 = .ok (.bipush 10, 2) := by decide +kernel
theorem dL_figures_12 : decode cL_figures 12 = .ok (.idiv, 1) := by decide +kernel
theorem dL_figures_13 : decode cL_figures 13 = .ok (.iadd, 1) := by decide +kernel
theorem dL_figures_14 : decode cL_figures 14 = .ok (.goto 4, 3) := by decide +kernel
theorem dL_figures_17 : decode cL_figures 17 = .ok (.iconst 0, 1) := by decide +kernel
theorem dL_figures_18 : decode cL_figures 18 = .ok (.bipush 48, 2) := by decide +kernel
theorem dL_figures_20 : decode cL_figures 20 = .ok (.iload_n 1, 1) := by decide +kernel
theorem dL_figures_21 : decode cL_figures 21 = .ok (.bipush 10, 2) := by decide +kernel
theorem dL_figures_23 : decode cL_figures 23 = .ok (.irem, 1) := by decide +kernel
theorem dL_figures_24 : decode cL_figures 24 = .ok (.iadd, 1) := by decide +kernel
theorem dL_figures_25 : decode cL_figures 25 = .ok (.iconst 0, 1) := by decide +kernel
theorem dL_figures_26 : decode cL_figures 26 = .ok (.iconst 0, 1) := by decide +kernel
theorem dL_figures_27 : decode cL_figures 27 = .ok (.iconst 0, 1) := by decide +kernel
theorem dL_figures_28 : decode cL_figures 28 = .ok (.iconst 0, 1) := by decide +kernel
theorem dL_figures_29 : decode cL_figures 29 = .ok (.iconst 0, 1) := by decide +kernel
theorem dL_figures_30 : decode cL_figures 30 = .ok (.invokestatic 59, 3) := by decide +kernel
theorem dL_figures_33 : decode cL_figures 33 = .ok (.return_, 1) := by decide +kernel
theorem dL_queries_0 : decode cL_queries 0 = .ok (.aload_n 3, 1) := by decide +kernel
theorem dL_queries_1 : decode cL_queries 1 = .ok (.iconst 0, 1) := by decide +kernel
theorem dL_queries_2 : decode cL_queries 2 = .ok (.iload_n 1, 1) := by decide +kernel
theorem dL_queries_3 : decode cL_queries 3 = .ok (.iconst 3, 1) := by decide +kernel
theorem dL_queries_4 : decode cL_queries 4 = .ok (.irem, 1) := by decide +kernel
theorem dL_queries_5 : decode cL_queries 5 = .ok (.iastore, 1) := by decide +kernel
theorem dL_queries_6 : decode cL_queries 6 = .ok (.aload_n 0, 1) := by decide +kernel
theorem dL_queries_7 : decode cL_queries 7 = .ok (.aload_n 3, 1) := by decide +kernel
theorem dL_queries_8 : decode cL_queries 8 = .ok (.iconst 0, 1) := by decide +kernel
theorem dL_queries_9 : decode cL_queries 9 = .ok (.iaload, 1) := by decide +kernel
theorem dL_queries_10 : decode cL_queries 10 = .ok (.ifCond .ne 8, 3) := by decide +kernel
theorem dL_queries_13 : decode cL_queries 13 = .ok (.bipush 115, 2) := by decide +kernel
theorem dL_queries_15 : decode cL_queries 15 = .ok (.goto 17, 3) := by decide +kernel
theorem dL_queries_18 : decode cL_queries 18 = .ok (.aload_n 3, 1) := by decide +kernel
theorem dL_queries_19 : decode cL_queries 19 = .ok (.iconst 0, 1) := by decide +kernel
theorem dL_queries_20 : decode cL_queries 20 = .ok (.iaload, 1) := by decide +kernel
theorem dL_queries_21 : decode cL_queries 21 = .ok (.iconst 1, 1) := by decide +kernel
theorem dL_queries_22 : decode cL_queries 22 = .ok (.if_icmp .ne 8, 3) := by decide +kernel
theorem dL_queries_25 : decode cL_queries 25 = .ok (.bipush 99, 2) := by decide +kernel
theorem dL_queries_27 : decode cL_queries 27 = .ok (.goto 5, 3) := by decide +kernel
theorem dL_queries_30 : decode cL_queries 30 = .ok (.bipush 109, 2) := by decide +kernel
theorem dL_queries_32 : decode cL_queries 32 = .ok (.aload_n 3, 1) := by decide +kernel
theorem dL_queries_33 : decode cL_queries 33 = .ok (.iconst 0, 1) := by decide +kernel
theorem dL_queries_34 : decode cL_queries 34 = .ok (.iaload, 1) := by decide +kernel
theorem dL_queries_35 : decode cL_queries 35 = .ok (.ifCond .ne 8, 3) := by decide +kernel
theorem dL_queries_38 : decode cL_queries 38 = .ok (.bipush 117, 2) := by decide +kernel
theorem dL_queries_40 : decode cL_queries 40 = .ok (.goto 17, 3) := by decide +kernel
theorem dL_queries_43 : decode cL_queries 43 = .ok (.aload_n 3, 1) := by decide +kernel
theorem dL_queries_44 : decode cL_queries 44 = .ok (.iconst 0, 1) := by decide +kernel
theorem dL_queries_45 : decode cL_queries 45 = .ok (.iaload, 1) := by decide +kernel
theorem dL_queries_46 : decode cL_queries 46 = .ok (.iconst 1, 1) := by decide +kernel
theorem dL_queries_47 : decode cL_queries 47 = .ok (.if_icmp .ne 8, 3) := by decide +kernel
theorem dL_queries_50 : decode cL_queries 50 = .ok (.bipush 111, 2) := by decide +kernel
theorem dL_queries_52 : decode cL_queries 52 = .ok (.goto 5, 3) := by decide +kernel
theorem dL_queries_55 : decode cL_queries 55 = .ok (.bipush 97, 2) := by decide +kernel
theorem dL_queries_57 : decode cL_queries 57 = .ok (.aload_n 3, 1) := by decide +kernel
theorem dL_queries_58 : decode cL_queries 58 = .ok (.iconst 0, 1) := by decide +kernel
theorem dL_queries_59 : decode cL_queries 59 = .ok (.iaload, 1) := by decide +kernel
theorem dL_queries_60 : decode cL_queries 60 = .ok (.ifCond .ne 8, 3) := by decide +kernel
theorem dL_queries_63 : decode cL_queries 63 = .ok (.bipush 109, 2) := by decide +kernel
theorem dL_queries_65 : decode cL_queries 65 = .ok (.goto 17, 3) := by decide +kernel
theorem dL_queries_68 : decode cL_queries 68 = .ok (.aload_n 3, 1) := by decide +kernel
theorem dL_queries_69 : decode cL_queries 69 = .ok (.iconst 0, 1) := by decide +kernel
theorem dL_queries_70 : decode cL_queries 70 = .ok (.iaload, 1) := by decide +kernel
theorem dL_queries_71 : decode cL_queries 71 = .ok (.iconst 1, 1) := by decide +kernel
theorem dL_queries_72 : decode cL_queries 72 = .ok (.if_icmp .ne 8, 3) := by decide +kernel
theorem dL_queries_75 : decode cL_queries 75 = .ok (.bipush 117, 2) := by decide +kernel
theorem dL_queries_77 : decode cL_queries 77 = .ok (.goto 5, 3) := by decide +kernel
theorem dL_queries_80 : decode cL_queries 80 = .ok (.bipush 120, 2) := by decide +kernel
theorem dL_queries_82 : decode cL_queries 82 = .ok (.aload_n 3, 1) := by decide +kernel
theorem dL_queries_83 : decode cL_queries 83 = .ok (.iconst 0, 1) := by decide +kernel
theorem dL_queries_84 : decode cL_queries 84 = .ok (.iaload, 1) := by decide +kernel
theorem dL_queries_85 : decode cL_queries 85 = .ok (.iconst 1, 1) := by decide +kernel
theorem dL_queries_86 : decode cL_queries 86 = .ok (.if_icmp .ne 8, 3) := by decide +kernel
theorem dL_queries_89 : decode cL_queries 89 = .ok (.bipush 110, 2) := by decide +kernel
theorem dL_queries_91 : decode cL_queries 91 = .ok (.goto 4, 3) := by decide +kernel
theorem dL_queries_94 : decode cL_queries 94 = .ok (.iconst 0, 1) := by decide +kernel
theorem dL_queries_95 : decode cL_queries 95 = .ok (.aload_n 3, 1) := by decide +kernel
theorem dL_queries_96 : decode cL_queries 96 = .ok (.iconst 0, 1) := by decide +kernel
theorem dL_queries_97 : decode cL_queries 97 = .ok (.iaload, 1) := by decide +kernel
theorem dL_queries_98 : decode cL_queries 98 = .ok (.iconst 1, 1) := by decide +kernel
theorem dL_queries_99 : decode cL_queries 99 = .ok (.if_icmp .ne 8, 3) := by decide +kernel
theorem dL_queries_102 : decode cL_queries 102 = .ok (.bipush 116, 2) := by decide +kernel
theorem dL_queries_104 : decode cL_queries 104 = .ok (.goto 4, 3) := by decide +kernel
theorem dL_queries_107 : decode cL_queries 107 = .ok (.iconst 0, 1) := by decide +kernel
theorem dL_queries_108 : decode cL_queries 108 = .ok (.bipush 32, 2) := by decide +kernel
theorem dL_queries_110 : decode cL_queries 110 = .ok (.iconst 0, 1) := by decide +kernel
theorem dL_queries_111 : decode cL_queries 111 = .ok (.invokestatic 59, 3) := by decide +kernel
theorem dL_queries_114 : decode cL_queries 114 = .ok (.iload_n 1, 1) := by decide +kernel
theorem dL_queries_115 : decode cL_queries 115 = .ok (.iconst 3, 1) := by decide +kernel
theorem dL_queries_116 : decode cL_queries 116 = .ok (.idiv, 1) := by decide +kernel
theorem dL_queries_117 : decode cL_queries 117 = .ok (.iconst 3, 1) := by decide +kernel
theorem dL_queries_118 : decode cL_queries 118 = .ok (.irem, 1) := by decide +kernel
theorem dL_queries_119 : decode cL_queries 119 = .ok (.ifCond .ne 78, 3) := by decide +kernel
theorem dL_queries_122 : decode cL_queries 122 = .ok (.aload_n 0, 1) := by decide +kernel
theorem dL_queries_123 : decode cL_queries 123 = .ok (.bipush 105, 2) := by decide +kernel
theorem dL_queries_125 : decode cL_queries 125 = .ok (.bipush 102, 2) := by decide +kernel
theorem dL_queries_127 : decode cL_queries 127 = .ok (.bipush 32, 2) := by decide +kernel
theorem dL_queries_129 : decode cL_queries 129 = .ok (.bipush 60, 2) := by decide +kernel
theorem dL_queries_131 : decode cL_queries 131 = .ok (.iload_n 1, 1) := by decide +kernel
theorem dL_queries_132 : decode cL_queries 132 = .ok (.bipush 9, 2) := by decide +kernel
theorem dL_queries_134 : decode cL_queries 134 = .ok (.idiv, 1) := by decide +kernel
theorem dL_queries_135 : decode cL_queries 135 = .ok (.iconst 3, 1) := by decide +kernel
theorem dL_queries_136 : decode cL_queries 136 = .ok (.irem, 1) := by decide +kernel
theorem dL_queries_137 : decode cL_queries 137 = .ok (.iadd, 1) := by decide +kernel
theorem dL_queries_138 : decode cL_queries 138 = .ok (.bipush 32, 2) := by decide +kernel
theorem dL_queries_140 : decode cL_queries 140 = .ok (.iload_n 1, 1) := by decide +kernel
theorem dL_queries_141 : decode cL_queries 141 = .ok (.bipush 27, 2) := by decide +kernel
theorem dL_queries_143 : decode cL_queries 143 = .ok (.idiv, 1) := by decide +kernel
theorem dL_queries_144 : decode cL_queries 144 = .ok (.iconst 2, 1) := by decide +kernel
theorem dL_queries_145 : decode cL_queries 145 = .ok (.irem, 1) := by decide +kernel
theorem dL_queries_146 : decode cL_queries 146 = .ok (.ifCond .ne 7, 3) := by decide +kernel
theorem dL_queries_149 : decode cL_queries 149 = .ok (.iconst 0, 1) := by decide +kernel
theorem dL_queries_150 : decode cL_queries 150 = .ok (.goto 5, 3) := by decide +kernel
theorem dL_queries_153 : decode cL_queries 153 = .ok (.bipush 45, 2) := by decide +kernel
theorem dL_queries_155 : decode cL_queries 155 = .ok (.iconst 0, 1) := by decide +kernel
theorem dL_queries_156 : decode cL_queries 156 = .ok (.invokestatic 59, 3) := by decide +kernel
theorem dL_queries_159 : decode cL_queries 159 = .ok (.aload_n 0, 1) := by decide +kernel
theorem dL_queries_160 : decode cL_queries 160 = .ok (.iload_n 1, 1) := by decide +kernel
theorem dL_queries_161 : decode cL_queries 161 = .ok (.bipush 54, 2) := by decide +kernel
theorem dL_queries_163 : decode cL_queries 163 = .ok (.idiv, 1) := by decide +kernel
theorem dL_queries_164 : decode cL_queries 164 = .ok (.bipush 100, 2) := by decide +kernel
theorem dL_queries_166 : decode cL_queries 166 = .ok (.irem, 1) := by decide +kernel
theorem dL_queries_167 : decode cL_queries 167 = .ok (.invokestatic 65, 3) := by decide +kernel
theorem dL_queries_170 : decode cL_queries 170 = .ok (.aload_n 0, 1) := by decide +kernel
theorem dL_queries_171 : decode cL_queries 171 = .ok (.bipush 32, 2) := by decide +kernel
theorem dL_queries_173 : decode cL_queries 173 = .ok (.iload_n 1, 1) := by decide +kernel
theorem dL_queries_174 : decode cL_queries 174 = .ok (.sipush 5400, 3) := by decide +kernel
theorem dL_queries_177 : decode cL_queries 177 = .ok (.idiv, 1) := by decide +kernel
theorem dL_queries_178 : decode cL_queries 178 = .ok (.iconst 2, 1) := by decide +kernel
theorem dL_queries_179 : decode cL_queries 179 = .ok (.irem, 1) := by decide +kernel
theorem dL_queries_180 : decode cL_queries 180 = .ok (.ifCond .ne 8, 3) := by decide +kernel
theorem dL_queries_183 : decode cL_queries 183 = .ok (.bipush 32, 2) := by decide +kernel
theorem dL_queries_185 : decode cL_queries 185 = .ok (.goto 4, 3) := by decide +kernel
theorem dL_queries_188 : decode cL_queries 188 = .ok (.iconst 0, 1) := by decide +kernel
theorem dL_queries_189 : decode cL_queries 189 = .ok (.iconst 0, 1) := by decide +kernel
theorem dL_queries_190 : decode cL_queries 190 = .ok (.iconst 0, 1) := by decide +kernel
theorem dL_queries_191 : decode cL_queries 191 = .ok (.iconst 0, 1) := by decide +kernel
theorem dL_queries_192 : decode cL_queries 192 = .ok (.iconst 0, 1) := by decide +kernel
theorem dL_queries_193 : decode cL_queries 193 = .ok (.iconst 0, 1) := by decide +kernel
theorem dL_queries_194 : decode cL_queries 194 = .ok (.invokestatic 59, 3) := by decide +kernel
theorem dL_queries_197 : decode cL_queries 197 = .ok (.iload_n 1, 1) := by decide +kernel
theorem dL_queries_198 : decode cL_queries 198 = .ok (.sipush 10800, 3) := by decide +kernel
theorem dL_queries_201 : decode cL_queries 201 = .ok (.idiv, 1) := by decide +kernel
theorem dL_queries_202 : decode cL_queries 202 = .ok (.iconst 2, 1) := by decide +kernel
theorem dL_queries_203 : decode cL_queries 203 = .ok (.irem, 1) := by decide +kernel
theorem dL_queries_204 : decode cL_queries 204 = .ok (.ifCond .ne 19, 3) := by decide +kernel
theorem dL_queries_207 : decode cL_queries 207 = .ok (.aload_n 0, 1) := by decide +kernel
theorem dL_queries_208 : decode cL_queries 208 = .ok (.bipush 106, 2) := by decide +kernel
theorem dL_queries_210 : decode cL_queries 210 = .ok (.bipush 111, 2) := by decide +kernel
theorem dL_queries_212 : decode cL_queries 212 = .ok (.bipush 105, 2) := by decide +kernel
theorem dL_queries_214 : decode cL_queries 214 = .ok (.bipush 110, 2) := by decide +kernel
theorem dL_queries_216 : decode cL_queries 216 = .ok (.bipush 32, 2) := by decide +kernel
theorem dL_queries_218 : decode cL_queries 218 = .ok (.iconst 0, 1) := by decide +kernel
theorem dL_queries_219 : decode cL_queries 219 = .ok (.iconst 0, 1) := by decide +kernel
theorem dL_queries_220 : decode cL_queries 220 = .ok (.invokestatic 59, 3) := by decide +kernel
theorem dL_queries_223 : decode cL_queries 223 = .ok (.aload_n 3, 1) := by decide +kernel
theorem dL_queries_224 : decode cL_queries 224 = .ok (.iconst 1, 1) := by decide +kernel
theorem dL_queries_225 : decode cL_queries 225 = .ok (.iload_n 2, 1) := by decide +kernel
theorem dL_queries_226 : decode cL_queries 226 = .ok (.iconst 3, 1) := by decide +kernel
theorem dL_queries_227 : decode cL_queries 227 = .ok (.irem, 1) := by decide +kernel
theorem dL_queries_228 : decode cL_queries 228 = .ok (.iastore, 1) := by decide +kernel
theorem dL_queries_229 : decode cL_queries 229 = .ok (.aload_n 3, 1) := by decide +kernel
theorem dL_queries_230 : decode cL_queries 230 = .ok (.iconst 2, 1) := by decide +kernel
theorem dL_queries_231 : decode cL_queries 231 = .ok (.iconst 1, 1) := by decide +kernel
theorem dL_queries_232 : decode cL_queries 232 = .ok (.iload_n 2, 1) := by decide +kernel
theorem dL_queries_233 : decode cL_queries 233 = .ok (.iconst 3, 1) := by decide +kernel
theorem dL_queries_234 : decode cL_queries 234 = .ok (.idiv, 1) := by decide +kernel
theorem dL_queries_235 : decode cL_queries 235 = .ok (.bipush 12, 2) := by decide +kernel
theorem dL_queries_237 : decode cL_queries 237 = .ok (.irem, 1) := by decide +kernel
theorem dL_queries_238 : decode cL_queries 238 = .ok (.iadd, 1) := by decide +kernel
theorem dL_queries_239 : decode cL_queries 239 = .ok (.iastore, 1) := by decide +kernel
theorem dL_queries_240 : decode cL_queries 240 = .ok (.aload_n 3, 1) := by decide +kernel
theorem dL_queries_241 : decode cL_queries 241 = .ok (.iconst 3, 1) := by decide +kernel
theorem dL_queries_242 : decode cL_queries 242 = .ok (.iconst 0, 1) := by decide +kernel
theorem dL_queries_243 : decode cL_queries 243 = .ok (.iastore, 1) := by decide +kernel
theorem dL_queries_244 : decode cL_queries 244 = .ok (.aload_n 3, 1) := by decide +kernel
theorem dL_queries_245 : decode cL_queries 245 = .ok (.iconst 1, 1) := by decide +kernel
theorem dL_queries_246 : decode cL_queries 246 = .ok (.iaload, 1) := by decide +kernel
theorem dL_queries_247 : decode cL_queries 247 = .ok (.ifCond .ne 23, 3) := by decide +kernel
theorem dL_queries_250 : decode cL_queries 250 = .ok (.aload_n 0, 1) := by decide +kernel
theorem dL_queries_251 : decode cL_queries 251 = .ok (.bipush 102, 2) := by decide +kernel
theorem dL_queries_253 : decode cL_queries 253 = .ok (.bipush 105, 2) := by decide +kernel
theorem dL_queries_255 : decode cL_queries 255 = .ok (.bipush 120, 2) := by decide +kernel
theorem dL_queries_257 : decode cL_queries 257 = .ok (.bipush 101, 2) := by decide +kernel
theorem dL_queries_259 : decode cL_queries 259 = .ok (.bipush 100, 2) := by decide +kernel
theorem dL_queries_261 : decode cL_queries 261 = .ok (.bipush 32, 2) := by decide +kernel
theorem dL_queries_263 : decode cL_queries 263 = .ok (.iconst 0, 1) := by decide +kernel
theorem dL_queries_264 : decode cL_queries 264 = .ok (.invokestatic 59, 3) := by decide +kernel
theorem dL_queries_267 : decode cL_queries 267 = .ok (.goto 73, 3) := by decide +kernel
theorem dL_queries_270 : decode cL_queries 270 = .ok (.aload_n 3, 1) := by decide +kernel
theorem dL_queries_271 : decode cL_queries 271 = .ok (.iconst 1, 1) := by decide +kernel
theorem dL_queries_272 : decode cL_queries 272 = .ok (.iaload, 1) := by decide +kernel
theorem dL_queries_273 : decode cL_queries 273 = .ok (.iconst 1, 1) := by decide +kernel
theorem dL_queries_274 : decode cL_queries 274 = .ok (.if_icmp .ne 36, 3) := by decide +kernel
theorem dL_queries_277 : decode cL_queries 277 = .ok (.aload_n 0, 1) := by decide +kernel
theorem dL_queries_278 : decode cL_queries 278 = .ok (.bipush 115, 2) := by decide +kernel
theorem dL_queries_280 : decode cL_queries 280 = .ok (.bipush 108, 2) := by decide +kernel
theorem dL_queries_282 : decode cL_queries 282 = .ok (.bipush 105, 2) := by decide +kernel
theorem dL_queries_284 : decode cL_queries 284 = .ok (.bipush 100, 2) := by decide +kernel
theorem dL_queries_286 : decode cL_queries 286 = .ok (.bipush 105, 2) := by decide +kernel
theorem dL_queries_288 : decode cL_queries 288 = .ok (.bipush 110, 2) := by decide +kernel
theorem dL_queries_290 : decode cL_queries 290 = .ok (.bipush 103, 2) := by decide +kernel
theorem dL_queries_292 : decode cL_queries 292 = .ok (.invokestatic 59, 3) := by decide +kernel
theorem dL_queries_295 : decode cL_queries 295 = .ok (.aload_n 0, 1) := by decide +kernel
theorem dL_queries_296 : decode cL_queries 296 = .ok (.bipush 32, 2) := by decide +kernel
theorem dL_queries_298 : decode cL_queries 298 = .ok (.iconst 0, 1) := by decide +kernel
theorem dL_queries_299 : decode cL_queries 299 = .ok (.iconst 0, 1) := by decide +kernel
theorem dL_queries_300 : decode cL_queries 300 = .ok (.iconst 0, 1) := by decide +kernel
theorem dL_queries_301 : decode cL_queries 301 = .ok (.iconst 0, 1) := by decide +kernel
theorem dL_queries_302 : decode cL_queries 302 = .ok (.iconst 0, 1) := by decide +kernel
theorem dL_queries_303 : decode cL_queries 303 = .ok (.iconst 0, 1) := by decide +kernel
theorem dL_queries_304 : decode cL_queries 304 = .ok (.invokestatic 59, 3) := by decide +kernel
theorem dL_queries_307 : decode cL_queries 307 = .ok (.goto 33, 3) := by decide +kernel
theorem dL_queries_310 : decode cL_queries 310 = .ok (.aload_n 0, 1) := by decide +kernel
theorem dL_queries_311 : decode cL_queries 311 = .ok (.bipush 115, 2) := by decide +kernel
theorem dL_queries_313 : decode cL_queries 313 = .ok (.bipush 101, 2) := by decide +kernel
theorem dL_queries_315 : decode cL_queries 315 = .ok (.bipush 115, 2) := by decide +kernel
theorem dL_queries_317 : decode cL_queries 317 = .ok (.bipush 115, 2) := by decide +kernel
theorem dL_queries_319 : decode cL_queries 319 = .ok (.bipush 105, 2) := by decide +kernel
theorem dL_queries_321 : decode cL_queries 321 = .ok (.bipush 111, 2) := by decide +kernel
theorem dL_queries_323 : decode cL_queries 323 = .ok (.bipush 110, 2) := by decide +kernel
theorem dL_queries_325 : decode cL_queries 325 = .ok (.invokestatic 59, 3) := by decide +kernel
theorem dL_queries_328 : decode cL_queries 328 = .ok (.aload_n 0, 1) := by decide +kernel
theorem dL_queries_329 : decode cL_queries 329 = .ok (.bipush 32, 2) := by decide +kernel
theorem dL_queries_331 : decode cL_queries 331 = .ok (.iconst 0, 1) := by decide +kernel
theorem dL_queries_332 : decode cL_queries 332 = .ok (.iconst 0, 1) := by decide +kernel
theorem dL_queries_333 : decode cL_queries 333 = .ok (.iconst 0, 1) := by decide +kernel
theorem dL_queries_334 : decode cL_queries 334 = .ok (.iconst 0, 1) := by decide +kernel
theorem dL_queries_335 : decode cL_queries 335 = .ok (.iconst 0, 1) := by decide +kernel
theorem dL_queries_336 : decode cL_queries 336 = .ok (.iconst 0, 1) := by decide +kernel
theorem dL_queries_337 : decode cL_queries 337 = .ok (.invokestatic 59, 3) := by decide +kernel
theorem dL_queries_340 : decode cL_queries 340 = .ok (.aload_n 0, 1) := by decide +kernel
theorem dL_queries_341 : decode cL_queries 341 = .ok (.aload_n 3, 1) := by decide +kernel
theorem dL_queries_342 : decode cL_queries 342 = .ok (.iconst 2, 1) := by decide +kernel
theorem dL_queries_343 : decode cL_queries 343 = .ok (.iaload, 1) := by decide +kernel
theorem dL_queries_344 : decode cL_queries 344 = .ok (.invokestatic 65, 3) := by decide +kernel
theorem dL_queries_347 : decode cL_queries 347 = .ok (.iconst 1, 1) := by decide +kernel
theorem dL_queries_348 : decode cL_queries 348 = .ok (.istore 4, 2) := by decide +kernel
theorem dL_queries_350 : decode cL_queries 350 = .ok (.aload_n 3, 1) := by decide +kernel
theorem dL_queries_351 : decode cL_queries 351 = .ok (.iconst 1, 1) := by decide +kernel
theorem dL_queries_352 : decode cL_queries 352 = .ok (.iaload, 1) := by decide +kernel
theorem dL_queries_353 : decode cL_queries 353 = .ok (.iconst 1, 1) := by decide +kernel
theorem dL_queries_354 : decode cL_queries 354 = .ok (.if_icmp .ne 62, 3) := by decide +kernel
theorem dL_queries_357 : decode cL_queries 357 = .ok (.aload_n 3, 1) := by decide +kernel
theorem dL_queries_358 : decode cL_queries 358 = .ok (.iconst 3, 1) := by decide +kernel
theorem dL_queries_359 : decode cL_queries 359 = .ok (.iconst 1, 1) := by decide +kernel
theorem dL_queries_360 : decode cL_queries 360 = .ok (.iload_n 2, 1) := by decide +kernel
theorem dL_queries_361 : decode cL_queries 361 = .ok (.bipush 36, 2) := by decide +kernel
theorem dL_queries_363 : decode cL_queries 363 = .ok (.idiv, 1) := by decide +kernel
theorem dL_queries_364 : decode cL_queries 364 = .ok (.bipush 6, 2) := by decide +kernel
theorem dL_queries_366 : decode cL_queries 366 = .ok (.irem, 1) := by decide +kernel
theorem dL_queries_367 : decode cL_queries 367 = .ok (.iadd, 1) := by decide +kernel
theorem dL_queries_368 : decode cL_queries 368 = .ok (.iastore, 1) := by decide +kernel
theorem dL_queries_369 : decode cL_queries 369 = .ok (.aload_n 0, 1) := by decide +kernel
theorem dL_queries_370 : decode cL_queries 370 = .ok (.bipush 32, 2) := by decide +kernel
theorem dL_queries_372 : decode cL_queries 372 = .ok (.iconst 0, 1) := by decide +kernel
theorem dL_queries_373 : decode cL_queries 373 = .ok (.iconst 0, 1) := by decide +kernel
theorem dL_queries_374 : decode cL_queries 374 = .ok (.iconst 0, 1) := by decide +kernel
theorem dL_queries_375 : decode cL_queries 375 = .ok (.iconst 0, 1) := by decide +kernel
theorem dL_queries_376 : decode cL_queries 376 = .ok (.iconst 0, 1) := by decide +kernel
theorem dL_queries_377 : decode cL_queries 377 = .ok (.iconst 0, 1) := by decide +kernel
theorem dL_queries_378 : decode cL_queries 378 = .ok (.invokestatic 59, 3) := by decide +kernel
theorem dL_queries_381 : decode cL_queries 381 = .ok (.aload_n 0, 1) := by decide +kernel
theorem dL_queries_382 : decode cL_queries 382 = .ok (.aload_n 3, 1) := by decide +kernel
theorem dL_queries_383 : decode cL_queries 383 = .ok (.iconst 3, 1) := by decide +kernel
theorem dL_queries_384 : decode cL_queries 384 = .ok (.iaload, 1) := by decide +kernel
theorem dL_queries_385 : decode cL_queries 385 = .ok (.invokestatic 65, 3) := by decide +kernel
theorem dL_queries_388 : decode cL_queries 388 = .ok (.aload_n 3, 1) := by decide +kernel
theorem dL_queries_389 : decode cL_queries 389 = .ok (.iconst 2, 1) := by decide +kernel
theorem dL_queries_390 : decode cL_queries 390 = .ok (.iaload, 1) := by decide +kernel
theorem dL_queries_391 : decode cL_queries 391 = .ok (.aload_n 3, 1) := by decide +kernel
theorem dL_queries_392 : decode cL_queries 392 = .ok (.iconst 3, 1) := by decide +kernel
theorem dL_queries_393 : decode cL_queries 393 = .ok (.iaload, 1) := by decide +kernel
theorem dL_queries_394 : decode cL_queries 394 = .ok (.irem, 1) := by decide +kernel
theorem dL_queries_395 : decode cL_queries 395 = .ok (.ifCond .ne 18, 3) := by decide +kernel
theorem dL_queries_398 : decode cL_queries 398 = .ok (.aload_n 3, 1) := by decide +kernel
theorem dL_queries_399 : decode cL_queries 399 = .ok (.iconst 2, 1) := by decide +kernel
theorem dL_queries_400 : decode cL_queries 400 = .ok (.iaload, 1) := by decide +kernel
theorem dL_queries_401 : decode cL_queries 401 = .ok (.iconst 4, 1) := by decide +kernel
theorem dL_queries_402 : decode cL_queries 402 = .ok (.aload_n 3, 1) := by decide +kernel
theorem dL_queries_403 : decode cL_queries 403 = .ok (.iconst 3, 1) := by decide +kernel
theorem dL_queries_404 : decode cL_queries 404 = .ok (.iaload, 1) := by decide +kernel
theorem dL_queries_405 : decode cL_queries 405 = .ok (.imul, 1) := by decide +kernel
theorem dL_queries_406 : decode cL_queries 406 = .ok (.if_icmp .gt 7, 3) := by decide +kernel
theorem dL_queries_409 : decode cL_queries 409 = .ok (.iconst 1, 1) := by decide +kernel
theorem dL_queries_410 : decode cL_queries 410 = .ok (.goto 4, 3) := by decide +kernel
theorem dL_queries_413 : decode cL_queries 413 = .ok (.iconst 0, 1) := by decide +kernel
theorem dL_queries_414 : decode cL_queries 414 = .ok (.istore 4, 2) := by decide +kernel
theorem dL_queries_416 : decode cL_queries 416 = .ok (.aload_n 3, 1) := by decide +kernel
theorem dL_queries_417 : decode cL_queries 417 = .ok (.iconst 4, 1) := by decide +kernel
theorem dL_queries_418 : decode cL_queries 418 = .ok (.iload_n 2, 1) := by decide +kernel
theorem dL_queries_419 : decode cL_queries 419 = .ok (.sipush 216, 3) := by decide +kernel
theorem dL_queries_422 : decode cL_queries 422 = .ok (.idiv, 1) := by decide +kernel
theorem dL_queries_423 : decode cL_queries 423 = .ok (.iconst 3, 1) := by decide +kernel
theorem dL_queries_424 : decode cL_queries 424 = .ok (.irem, 1) := by decide +kernel
theorem dL_queries_425 : decode cL_queries 425 = .ok (.ifCond .ne 7, 3) := by decide +kernel
theorem dL_queries_428 : decode cL_queries 428 = .ok (.iconst 0, 1) := by decide +kernel
theorem dL_queries_429 : decode cL_queries 429 = .ok (.goto 11, 3) := by decide +kernel
theorem dL_queries_432 : decode cL_queries 432 = .ok (.iload_n 2, 1) := by decide +kernel
theorem dL_queries_433 : decode cL_queries 433 = .ok (.sipush 648, 3) := by decide +kernel
theorem dL_queries_436 : decode cL_queries 436 = .ok (.idiv, 1) := by decide +kernel
theorem dL_queries_437 : decode cL_queries 437 = .ok (.bipush 20, 2) := by decide +kernel
theorem dL_queries_439 : decode cL_queries 439 = .ok (.irem, 1) := by decide +kernel
theorem dL_queries_440 : decode cL_queries 440 = .ok (.iastore, 1) := by decide +kernel
theorem dL_queries_441 : decode cL_queries 441 = .ok (.aload_n 3, 1) := by decide +kernel
theorem dL_queries_442 : decode cL_queries 442 = .ok (.iconst 4, 1) := by decide +kernel
theorem dL_queries_443 : decode cL_queries 443 = .ok (.iaload, 1) := by decide +kernel
theorem dL_queries_444 : decode cL_queries 444 = .ok (.ifCond .gt 14, 3) := by decide +kernel
theorem dL_queries_447 : decode cL_queries 447 = .ok (.iload_n 2, 1) := by decide +kernel
theorem dL_queries_448 : decode cL_queries 448 = .ok (.sipush 216, 3) := by decide +kernel
theorem dL_queries_451 : decode cL_queries 451 = .ok (.idiv, 1) := by decide +kernel
theorem dL_queries_452 : decode cL_queries 452 = .ok (.iconst 3, 1) := by decide +kernel
theorem dL_queries_453 : decode cL_queries 453 = .ok (.irem, 1) := by decide +kernel
theorem dL_queries_454 : decode cL_queries 454 = .ok (.iconst 1, 1) := by decide +kernel
theorem dL_queries_455 : decode cL_queries 455 = .ok (.if_icmp .ne 27, 3) := by decide +kernel
theorem dL_queries_458 : decode cL_queries 458 = .ok (.aload_n 0, 1) := by decide +kernel
theorem dL_queries_459 : decode cL_queries 459 = .ok (.bipush 32, 2) := by decide +kernel
theorem dL_queries_461 : decode cL_queries 461 = .ok (.bipush 108, 2) := by decide +kernel
theorem dL_queries_463 : decode cL_queries 463 = .ok (.bipush 97, 2) := by decide +kernel
theorem dL_queries_465 : decode cL_queries 465 = .ok (.bipush 116, 2) := by decide +kernel
theorem dL_queries_467 : decode cL_queries 467 = .ok (.bipush 101, 2) := by decide +kernel
theorem dL_queries_469 : decode cL_queries 469 = .ok (.bipush 32, 2) := by decide +kernel
theorem dL_queries_471 : decode cL_queries 471 = .ok (.iconst 0, 1) := by decide +kernel
theorem dL_queries_472 : decode cL_queries 472 = .ok (.invokestatic 59, 3) := by decide +kernel
theorem dL_queries_475 : decode cL_queries 475 = .ok (.aload_n 0, 1) := by decide +kernel
theorem dL_queries_476 : decode cL_queries 476 = .ok (.aload_n 3, 1) := by decide +kernel
theorem dL_queries_477 : decode cL_queries 477 = .ok (.iconst 4, 1) := by decide +kernel
theorem dL_queries_478 : decode cL_queries 478 = .ok (.iaload, 1) := by decide +kernel
theorem dL_queries_479 : decode cL_queries 479 = .ok (.invokestatic 65, 3) := by decide +kernel
theorem dL_queries_482 : decode cL_queries 482 = .ok (.aload_n 3, 1) := by decide +kernel
theorem dL_queries_483 : decode cL_queries 483 = .ok (.iconst 5, 1) := by decide +kernel
theorem dL_queries_484 : decode cL_queries 484 = .ok (.iload_n 2, 1) := by decide +kernel
theorem dL_queries_485 : decode cL_queries 485 = .ok (.sipush 12960, 3) := by decide +kernel
theorem dL_queries_488 : decode cL_queries 488 = .ok (.idiv, 1) := by decide +kernel
theorem dL_queries_489 : decode cL_queries 489 = .ok (.iconst 4, 1) := by decide +kernel
theorem dL_queries_490 : decode cL_queries 490 = .ok (.irem, 1) := by decide +kernel
theorem dL_queries_491 : decode cL_queries 491 = .ok (.iastore, 1) := by decide +kernel
theorem dL_queries_492 : decode cL_queries 492 = .ok (.aload_n 3, 1) := by decide +kernel
theorem dL_queries_493 : decode cL_queries 493 = .ok (.iconst 5, 1) := by decide +kernel
theorem dL_queries_494 : decode cL_queries 494 = .ok (.iaload, 1) := by decide +kernel
theorem dL_queries_495 : decode cL_queries 495 = .ok (.ifCond .le 130, 3) := by decide +kernel
theorem dL_queries_498 : decode cL_queries 498 = .ok (.aload_n 0, 1) := by decide +kernel
theorem dL_queries_499 : decode cL_queries 499 = .ok (.bipush 32, 2) := by decide +kernel
theorem dL_queries_501 : decode cL_queries 501 = .ok (.aload_n 3, 1) := by decide +kernel
theorem dL_queries_502 : decode cL_queries 502 = .ok (.iconst 5, 1) := by decide +kernel
theorem dL_queries_503 : decode cL_queries 503 = .ok (.iaload, 1) := by decide +kernel
theorem dL_queries_504 : decode cL_queries 504 = .ok (.iconst 1, 1) := by decide +kernel
theorem dL_queries_505 : decode cL_queries 505 = .ok (.if_icmp .ne 8, 3) := by decide +kernel
theorem dL_queries_508 : decode cL_queries 508 = .ok (.bipush 97, 2) := by decide +kernel
theorem dL_queries_510 : decode cL_queries 510 = .ok (.goto 17, 3) := by decide +kernel
theorem dL_queries_513 : decode cL_queries 513 = .ok (.aload_n 3, 1) := by decide +kernel
theorem dL_queries_514 : decode cL_queries 514 = .ok (.iconst 5, 1) := by decide +kernel
theorem dL_queries_515 : decode cL_queries 515 = .ok (.iaload, 1) := by decide +kernel
theorem dL_queries_516 : decode cL_queries 516 = .ok (.iconst 2, 1) := by decide +kernel
theorem dL_queries_517 : decode cL_queries 517 = .ok (.if_icmp .ne 8, 3) := by decide +kernel
theorem dL_queries_520 : decode cL_queries 520 = .ok (.bipush 100, 2) := by decide +kernel
theorem dL_queries_522 : decode cL_queries 522 = .ok (.goto 5, 3) := by decide +kernel
theorem dL_queries_525 : decode cL_queries 525 = .ok (.bipush 98, 2) := by decide +kernel
theorem dL_queries_527 : decode cL_queries 527 = .ok (.aload_n 3, 1) := by decide +kernel
theorem dL_queries_528 : decode cL_queries 528 = .ok (.iconst 5, 1) := by decide +kernel
theorem dL_queries_529 : decode cL_queries 529 = .ok (.iaload, 1) := by decide +kernel
theorem dL_queries_530 : decode cL_queries 530 = .ok (.iconst 1, 1) := by decide +kernel
theorem dL_queries_531 : decode cL_queries 531 = .ok (.if_icmp .ne 8, 3) := by decide +kernel
theorem dL_queries_534 : decode cL_queries 534 = .ok (.bipush 110, 2) := by decide +kernel
theorem dL_queries_536 : decode cL_queries 536 = .ok (.goto 17, 3) := by decide +kernel
theorem dL_queries_539 : decode cL_queries 539 = .ok (.aload_n 3, 1) := by decide +kernel
theorem dL_queries_540 : decode cL_queries 540 = .ok (.iconst 5, 1) := by decide +kernel
theorem dL_queries_541 : decode cL_queries 541 = .ok (.iaload, 1) := by decide +kernel
theorem dL_queries_542 : decode cL_queries 542 = .ok (.iconst 2, 1) := by decide +kernel
theorem dL_queries_543 : decode cL_queries 543 = .ok (.if_icmp .ne 8, 3) := by decide +kernel
theorem dL_queries_546 : decode cL_queries 546 = .ok (.bipush 105, 2) := by decide +kernel
theorem dL_queries_548 : decode cL_queries 548 = .ok (.goto 5, 3) := by decide +kernel
theorem dL_queries_551 : decode cL_queries 551 = .ok (.bipush 97, 2) := by decide +kernel
theorem dL_queries_553 : decode cL_queries 553 = .ok (.aload_n 3, 1) := by decide +kernel
theorem dL_queries_554 : decode cL_queries 554 = .ok (.iconst 5, 1) := by decide +kernel
theorem dL_queries_555 : decode cL_queries 555 = .ok (.iaload, 1) := by decide +kernel
theorem dL_queries_556 : decode cL_queries 556 = .ok (.iconst 1, 1) := by decide +kernel
theorem dL_queries_557 : decode cL_queries 557 = .ok (.if_icmp .ne 8, 3) := by decide +kernel
theorem dL_queries_560 : decode cL_queries 560 = .ok (.bipush 101, 2) := by decide +kernel
theorem dL_queries_562 : decode cL_queries 562 = .ok (.goto 17, 3) := by decide +kernel
theorem dL_queries_565 : decode cL_queries 565 = .ok (.aload_n 3, 1) := by decide +kernel
theorem dL_queries_566 : decode cL_queries 566 = .ok (.iconst 5, 1) := by decide +kernel
theorem dL_queries_567 : decode cL_queries 567 = .ok (.iaload, 1) := by decide +kernel
theorem dL_queries_568 : decode cL_queries 568 = .ok (.iconst 2, 1) := by decide +kernel
theorem dL_queries_569 : decode cL_queries 569 = .ok (.if_icmp .ne 8, 3) := by decide +kernel
theorem dL_queries_572 : decode cL_queries 572 = .ok (.bipush 102, 2) := by decide +kernel
theorem dL_queries_574 : decode cL_queries 574 = .ok (.goto 5, 3) := by decide +kernel
theorem dL_queries_577 : decode cL_queries 577 = .ok (.bipush 99, 2) := by decide +kernel
theorem dL_queries_579 : decode cL_queries 579 = .ok (.aload_n 3, 1) := by decide +kernel
theorem dL_queries_580 : decode cL_queries 580 = .ok (.iconst 5, 1) := by decide +kernel
theorem dL_queries_581 : decode cL_queries 581 = .ok (.iaload, 1) := by decide +kernel
theorem dL_queries_582 : decode cL_queries 582 = .ok (.iconst 1, 1) := by decide +kernel
theorem dL_queries_583 : decode cL_queries 583 = .ok (.if_icmp .ne 8, 3) := by decide +kernel
theorem dL_queries_586 : decode cL_queries 586 = .ok (.bipush 119, 2) := by decide +kernel
theorem dL_queries_588 : decode cL_queries 588 = .ok (.goto 17, 3) := by decide +kernel
theorem dL_queries_591 : decode cL_queries 591 = .ok (.aload_n 3, 1) := by decide +kernel
theorem dL_queries_592 : decode cL_queries 592 = .ok (.iconst 5, 1) := by decide +kernel
theorem dL_queries_593 : decode cL_queries 593 = .ok (.iaload, 1) := by decide +kernel
theorem dL_queries_594 : decode cL_queries 594 = .ok (.iconst 2, 1) := by decide +kernel
theorem dL_queries_595 : decode cL_queries 595 = .ok (.if_icmp .ne 8, 3) := by decide +kernel
theorem dL_queries_598 : decode cL_queries 598 = .ok (.bipush 102, 2) := by decide +kernel
theorem dL_queries_600 : decode cL_queries 600 = .ok (.goto 5, 3) := by decide +kernel
theorem dL_queries_603 : decode cL_queries 603 = .ok (.bipush 107, 2) := by decide +kernel
theorem dL_queries_605 : decode cL_queries 605 = .ok (.iload_n 1, 1) := by decide +kernel
theorem dL_queries_606 : decode cL_queries 606 = .ok (.sipush 21600, 3) := by decide +kernel
theorem dL_queries_609 : decode cL_queries 609 = .ok (.idiv, 1) := by decide +kernel
theorem dL_queries_610 : decode cL_queries 610 = .ok (.iconst 2, 1) := by decide +kernel
theorem dL_queries_611 : decode cL_queries 611 = .ok (.irem, 1) := by decide +kernel
theorem dL_queries_612 : decode cL_queries 612 = .ok (.ifCond .ne 8, 3) := by decide +kernel
theorem dL_queries_615 : decode cL_queries 615 = .ok (.bipush 32, 2) := by decide +kernel
theorem dL_queries_617 : decode cL_queries 617 = .ok (.goto 4, 3) := by decide +kernel
theorem dL_queries_620 : decode cL_queries 620 = .ok (.iconst 0, 1) := by decide +kernel
theorem dL_queries_621 : decode cL_queries 621 = .ok (.iconst 0, 1) := by decide +kernel
theorem dL_queries_622 : decode cL_queries 622 = .ok (.invokestatic 59, 3) := by decide +kernel
theorem dL_queries_625 : decode cL_queries 625 = .ok (.iload 4, 2) := by decide +kernel
theorem dL_queries_627 : decode cL_queries 627 = .ok (.ireturn, 1) := by decide +kernel
theorem dL_areWindows_0 : decode cL_areWindows 0 = .ok (.aload_n 0, 1) := by decide +kernel
theorem dL_areWindows_1 : decode cL_areWindows 1 = .ok (.invokevirtual 69, 3) := by decide +kernel
theorem dL_areWindows_4 : decode cL_areWindows 4 = .ok (.istore_n 3, 1) := by decide +kernel
theorem dL_areWindows_5 : decode cL_areWindows 5 = .ok (.aload_n 0, 1) := by decide +kernel
theorem dL_areWindows_6 : decode cL_areWindows 6 = .ok (.iconst 4, 1) := by decide +kernel
theorem dL_areWindows_7 : decode cL_areWindows 7 = .ok (.iload_n 3, 1) := by decide +kernel
theorem dL_areWindows_8 : decode cL_areWindows 8 = .ok (.iconst 0, 1) := by decide +kernel
theorem dL_areWindows_9 : decode cL_areWindows 9 = .ok (.invokestatic 72, 3) := by decide +kernel
theorem dL_areWindows_12 : decode cL_areWindows 12 = .ok (.ldc 44, 2) := by decide +kernel
theorem dL_areWindows_14 : decode cL_areWindows 14 = .ok (.if_icmp .ne 7, 3) := by decide +kernel
theorem dL_areWindows_17 : decode cL_areWindows 17 = .ok (.iconst 1, 1) := by decide +kernel
theorem dL_areWindows_18 : decode cL_areWindows 18 = .ok (.goto 4, 3) := by decide +kernel
theorem dL_areWindows_21 : decode cL_areWindows 21 = .ok (.iconst 0, 1) := by decide +kernel
theorem dL_areWindows_22 : decode cL_areWindows 22 = .ok (.istore 4, 2) := by decide +kernel
theorem dL_areWindows_24 : decode cL_areWindows 24 = .ok (.iconst 0, 1) := by decide +kernel
theorem dL_areWindows_25 : decode cL_areWindows 25 = .ok (.istore 5, 2) := by decide +kernel
theorem dL_areWindows_27 : decode cL_areWindows 27 = .ok (.iload 5, 2) := by decide +kernel
theorem dL_areWindows_29 : decode cL_areWindows 29 = .ok (.iload_n 3, 1) := by decide +kernel
theorem dL_areWindows_30 : decode cL_areWindows 30 = .ok (.if_icmp .ge 288, 3) := by decide +kernel
theorem dL_areWindows_33 : decode cL_areWindows 33 = .ok (.iload 4, 2) := by decide +kernel
theorem dL_areWindows_35 : decode cL_areWindows 35 = .ok (.ifCond .eq 283, 3) := by decide +kernel
theorem dL_areWindows_38 : decode cL_areWindows 38 = .ok (.aload_n 0, 1) := by decide +kernel
theorem dL_areWindows_39 : decode cL_areWindows 39 = .ok (.iload 5, 2) := by decide +kernel
theorem dL_areWindows_41 : decode cL_areWindows 41 = .ok (.iconst 0, 1) := by decide +kernel
theorem dL_areWindows_42 : decode cL_areWindows 42 = .ok (.invokevirtual 26, 3) := by decide +kernel
theorem dL_areWindows_45 : decode cL_areWindows 45 = .ok (.istore 6, 2) := by decide +kernel
theorem dL_areWindows_47 : decode cL_areWindows 47 = .ok (.aload_n 0, 1) := by decide +kernel
theorem dL_areWindows_48 : decode cL_areWindows 48 = .ok (.iload 5, 2) := by decide +kernel
theorem dL_areWindows_50 : decode cL_areWindows 50 = .ok (.iconst 1, 1) := by decide +kernel
theorem dL_areWindows_51 : decode cL_areWindows 51 = .ok (.invokevirtual 26, 3) := by decide +kernel
theorem dL_areWindows_54 : decode cL_areWindows 54 = .ok (.istore 7, 2) := by decide +kernel
theorem dL_areWindows_56 : decode cL_areWindows 56 = .ok (.aload_n 0, 1) := by decide +kernel
theorem dL_areWindows_57 : decode cL_areWindows 57 = .ok (.iload 5, 2) := by decide +kernel
theorem dL_areWindows_59 : decode cL_areWindows 59 = .ok (.iconst 2, 1) := by decide +kernel
theorem dL_areWindows_60 : decode cL_areWindows 60 = .ok (.invokevirtual 26, 3) := by decide +kernel
theorem dL_areWindows_63 : decode cL_areWindows 63 = .ok (.istore 8, 2) := by decide +kernel
theorem dL_areWindows_65 : decode cL_areWindows 65 = .ok (.iload 6, 2) := by decide +kernel
theorem dL_areWindows_67 : decode cL_areWindows 67 = .ok (.ifCond .lt 79, 3) := by decide +kernel
theorem dL_areWindows_70 : decode cL_areWindows 70 = .ok (.iload 6, 2) := by decide +kernel
theorem dL_areWindows_72 : decode cL_areWindows 72 = .ok (.bipush 8, 2) := by decide +kernel
theorem dL_areWindows_74 : decode cL_areWindows 74 = .ok (.if_icmp .ge 72, 3) := by decide +kernel
theorem dL_areWindows_77 : decode cL_areWindows 77 = .ok (.iload 7, 2) := by decide +kernel
theorem dL_areWindows_79 : decode cL_areWindows 79 = .ok (.ifCond .lt 67, 3) := by decide +kernel
theorem dL_areWindows_82 : decode cL_areWindows 82 = .ok (.iload 8, 2) := by decide +kernel
theorem dL_areWindows_84 : decode cL_areWindows 84 = .ok (.iload 7, 2) := by decide +kernel
theorem dL_areWindows_86 : decode cL_areWindows 86 = .ok (.if_icmp .le 60, 3) := by decide +kernel
theorem dL_areWindows_89 : decode cL_areWindows 89 = .ok (.aload_n 1, 1) := by decide +kernel
theorem dL_areWindows_90 : decode cL_areWindows 90 = .ok (.iconst 1, 1) := by decide +kernel
theorem dL_areWindows_91 : decode cL_areWindows 91 = .ok (.iaload, 1) := by decide +kernel
theorem dL_areWindows_92 : decode cL_areWindows 92 = .ok (.iconst 2, 1) := by decide +kernel
theorem dL_areWindows_93 : decode cL_areWindows 93 = .ok (.if_icmp .ne 17, 3) := by decide +kernel
theorem dL_areWindows_96 : decode cL_areWindows 96 = .ok (.iload 8, 2) := by decide +kernel
theorem dL_areWindows_98 : decode cL_areWindows 98 = .ok (.iload 7, 2) := by decide +kernel
theorem dL_areWindows_100 : decode cL_areWindows 100 = .ok (.isub, 1) := by decide +kernel
theorem dL_areWindows_101 : decode cL_areWindows 101 = .ok (.aload_n 1, 1) := by decide +kernel
theorem dL_areWindows_102 : decode cL_areWindows 102 = .ok (.iconst 2, 1) := by decide +kernel
theorem dL_areWindows_103 : decode cL_areWindows 103 = .ok (.iaload, 1) := by decide +kernel
theorem dL_areWindows_104 : decode cL_areWindows 104 = .ok (.if_icmp .lt 42, 3) := by decide +kernel
theorem dL_areWindows_107 : decode cL_areWindows 107 = .ok (.goto 35, 3) := by decide +kernel
theorem dL_areWindows_110 : decode cL_areWindows 110 = .ok (.iload 8, 2) := by decide +kernel
theorem dL_areWindows_112 : decode cL_areWindows 112 = .ok (.iload 7, 2) := by decide +kernel
theorem dL_areWindows_114 : decode cL_areWindows 114 = .ok (.isub, 1) := by decide +kernel
theorem dL_areWindows_115 : decode cL_areWindows 115 = .ok (.aload_n 1, 1) := by decide +kernel
theorem dL_areWindows_116 : decode cL_areWindows 116 = .ok (.iconst 2, 1) := by decide +kernel
theorem dL_areWindows_117 : decode cL_areWindows 117 = .ok (.iaload, 1) := by decide +kernel
theorem dL_areWindows_118 : decode cL_areWindows 118 = .ok (.if_icmp .ne 28, 3) := by decide +kernel
theorem dL_areWindows_121 : decode cL_areWindows 121 = .ok (.iload 7, 2) := by decide +kernel
theorem dL_areWindows_123 : decode cL_areWindows 123 = .ok (.aload_n 1, 1) := by decide +kernel
theorem dL_areWindows_124 : decode cL_areWindows 124 = .ok (.iconst 1, 1) := by decide +kernel
theorem dL_areWindows_125 : decode cL_areWindows 125 = .ok (.iaload, 1) := by decide +kernel
theorem dL_areWindows_126 : decode cL_areWindows 126 = .ok (.ifCond .ne 9, 3) := by decide +kernel
theorem dL_areWindows_129 : decode cL_areWindows 129 = .ok (.aload_n 1, 1) := by decide +kernel
theorem dL_areWindows_130 : decode cL_areWindows 130 = .ok (.iconst 2, 1) := by decide +kernel
theorem dL_areWindows_131 : decode cL_areWindows 131 = .ok (.iaload, 1) := by decide +kernel
theorem dL_areWindows_132 : decode cL_areWindows 132 = .ok (.goto 6, 3) := by decide +kernel
theorem dL_areWindows_135 : decode cL_areWindows 135 = .ok (.aload_n 1, 1) := by decide +kernel
theorem dL_areWindows_136 : decode cL_areWindows 136 = .ok (.iconst 3, 1) := by decide +kernel
theorem dL_areWindows_137 : decode cL_areWindows 137 = .ok (.iaload, 1) := by decide +kernel
theorem dL_areWindows_138 : decode cL_areWindows 138 = .ok (.irem, 1) := by decide +kernel
theorem dL_areWindows_139 : decode cL_areWindows 139 = .ok (.ifCond .ne 7, 3) := by decide +kernel
theorem dL_areWindows_142 : decode cL_areWindows 142 = .ok (.iconst 1, 1) := by decide +kernel
theorem dL_areWindows_143 : decode cL_areWindows 143 = .ok (.goto 4, 3) := by decide +kernel
theorem dL_areWindows_146 : decode cL_areWindows 146 = .ok (.iconst 0, 1) := by decide +kernel
theorem dL_areWindows_147 : decode cL_areWindows 147 = .ok (.istore 4, 2) := by decide +kernel
theorem dL_areWindows_149 : decode cL_areWindows 149 = .ok (.iload 4, 2) := by decide +kernel
theorem dL_areWindows_151 : decode cL_areWindows 151 = .ok (.ifCond .eq 78, 3) := by decide +kernel
theorem dL_areWindows_154 : decode cL_areWindows 154 = .ok (.iload 5, 2) := by decide +kernel
theorem dL_areWindows_156 : decode cL_areWindows 156 = .ok (.ifCond .eq 69, 3) := by decide +kernel
theorem dL_areWindows_159 : decode cL_areWindows 159 = .ok (.aload_n 0, 1) := by decide +kernel
theorem dL_areWindows_160 : decode cL_areWindows 160 = .ok (.iload 5, 2) := by decide +kernel
theorem dL_areWindows_162 : decode cL_areWindows 162 = .ok (.iconst 1, 1) := by decide +kernel
theorem dL_areWindows_163 : decode cL_areWindows 163 = .ok (.isub, 1) := by decide +kernel
theorem dL_areWindows_164 : decode cL_areWindows 164 = .ok (.iconst 0, 1) := by decide +kernel
theorem dL_areWindows_165 : decode cL_areWindows 165 = .ok (.invokevirtual 26, 3) := by decide +kernel
theorem dL_areWindows_168 : decode cL_areWindows 168 = .ok (.iload 6, 2) := by decide +kernel
theorem dL_areWindows_170 : decode cL_areWindows 170 = .ok (.if_icmp .lt 55, 3) := by decide +kernel
theorem dL_areWindows_173 : decode cL_areWindows 173 = .ok (.aload_n 0, 1) := by decide +kernel
theorem dL_areWindows_174 : decode cL_areWindows 174 = .ok (.iload 5, 2) := by decide +kernel
theorem dL_areWindows_176 : decode cL_areWindows 176 = .ok (.iconst 1, 1) := by decide +kernel
theorem dL_areWindows_177 : decode cL_areWindows 177 = .ok (.isub, 1) := by decide +kernel
theorem dL_areWindows_178 : decode cL_areWindows 178 = .ok (.iconst 0, 1) := by decide +kernel
theorem dL_areWindows_179 : decode cL_areWindows 179 = .ok (.invokevirtual 26, 3) := by decide +kernel
theorem dL_areWindows_182 : decode cL_areWindows 182 = .ok (.iload 6, 2) := by decide +kernel
theorem dL_areWindows_184 : decode cL_areWindows 184 = .ok (.if_icmp .ne 45, 3) := by decide +kernel
theorem dL_areWindows_187 : decode cL_areWindows 187 = .ok (.aload_n 1, 1) := by decide +kernel
theorem dL_areWindows_188 : decode cL_areWindows 188 = .ok (.iconst 1, 1) := by decide +kernel
theorem dL_areWindows_189 : decode cL_areWindows 189 = .ok (.iaload, 1) := by decide +kernel
theorem dL_areWindows_190 : decode cL_areWindows 190 = .ok (.iconst 2, 1) := by decide +kernel
theorem dL_areWindows_191 : decode cL_areWindows 191 = .ok (.if_icmp .ne 20, 3) := by decide +kernel
theorem dL_areWindows_194 : decode cL_areWindows 194 = .ok (.aload_n 0, 1) := by decide +kernel
theorem dL_areWindows_195 : decode cL_areWindows 195 = .ok (.iload 5, 2) := by decide +kernel
theorem dL_areWindows_197 : decode cL_areWindows 197 = .ok (.iconst 1, 1) := by decide +kernel
theorem dL_areWindows_198 : decode cL_areWindows 198 = .ok (.isub, 1) := by decide +kernel
theorem dL_areWindows_199 : decode cL_areWindows 199 = .ok (.iconst 2, 1) := by decide +kernel
theorem dL_areWindows_200 : decode cL_areWindows 200 = .ok (.invokevirtual 26, 3) := by decide +kernel
theorem dL_areWindows_203 : decode cL_areWindows 203 = .ok (.iload 7, 2) := by decide +kernel
theorem dL_areWindows_205 : decode cL_areWindows 205 = .ok (.if_icmp .gt 24, 3) := by decide +kernel
theorem dL_areWindows_208 : decode cL_areWindows 208 = .ok (.goto 17, 3) := by decide +kernel
theorem dL_areWindows_211 : decode cL_areWindows 211 = .ok (.aload_n 0, 1) := by decide +kernel
theorem dL_areWindows_212 : decode cL_areWindows 212 = .ok (.iload 5, 2) := by decide +kernel
theorem dL_areWindows_214 : decode cL_areWindows 214 = .ok (.iconst 1, 1) := by decide +kernel
theorem dL_areWindows_215 : decode cL_areWindows 215 = .ok (.isub, 1) := by decide +kernel
theorem dL_areWindows_216 : decode cL_areWindows 216 = .ok (.iconst 1, 1) := by decide +kernel
theorem dL_areWindows_217 : decode cL_areWindows 217 = .ok (.invokevirtual 26, 3) := by decide +kernel
theorem dL_areWindows_220 : decode cL_areWindows 220 = .ok (.iload 7, 2) := by decide +kernel
theorem dL_areWindows_222 : decode cL_areWindows 222 = .ok (.if_icmp .ge 7, 3) := by decide +kernel
theorem dL_areWindows_225 : decode cL_areWindows 225 = .ok (.iconst 1, 1) := by decide +kernel
theorem dL_areWindows_226 : decode cL_areWindows 226 = .ok (.goto 4, 3) := by decide +kernel
theorem dL_areWindows_229 : decode cL_areWindows 229 = .ok (.iconst 0, 1) := by decide +kernel
theorem dL_areWindows_230 : decode cL_areWindows 230 = .ok (.istore 4, 2) := by decide +kernel
theorem dL_areWindows_232 : decode cL_areWindows 232 = .ok (.iload 4, 2) := by decide +kernel
theorem dL_areWindows_234 : decode cL_areWindows 234 = .ok (.ifCond .eq 75, 3) := by decide +kernel
theorem dL_areWindows_237 : decode cL_areWindows 237 = .ok (.aload_n 0, 1) := by decide +kernel
theorem dL_areWindows_238 : decode cL_areWindows 238 = .ok (.iload 5, 2) := by decide +kernel
theorem dL_areWindows_240 : decode cL_areWindows 240 = .ok (.iconst 4, 1) := by decide +kernel
theorem dL_areWindows_241 : decode cL_areWindows 241 = .ok (.invokevirtual 26, 3) := by decide +kernel
theorem dL_areWindows_244 : decode cL_areWindows 244 = .ok (.iconst 1, 1) := by decide +kernel
theorem dL_areWindows_245 : decode cL_areWindows 245 = .ok (.if_icmp .ne 7, 3) := by decide +kernel
theorem dL_areWindows_248 : decode cL_areWindows 248 = .ok (.iconst 1, 1) := by decide +kernel
theorem dL_areWindows_249 : decode cL_areWindows 249 = .ok (.goto 4, 3) := by decide +kernel
theorem dL_areWindows_252 : decode cL_areWindows 252 = .ok (.iconst 0, 1) := by decide +kernel
theorem dL_areWindows_253 : decode cL_areWindows 253 = .ok (.iload 8, 2) := by decide +kernel
theorem dL_areWindows_255 : decode cL_areWindows 255 = .ok (.aload_n 0, 1) := by decide +kernel
theorem dL_areWindows_256 : decode cL_areWindows 256 = .ok (.invokevirtual 76, 3) := by decide +kernel
theorem dL_areWindows_259 : decode cL_areWindows 259 = .ok (.if_icmp .gt 7, 3) := by decide +kernel
theorem dL_areWindows_262 : decode cL_areWindows 262 = .ok (.iconst 1, 1) := by decide +kernel
theorem dL_areWindows_263 : decode cL_areWindows 263 = .ok (.goto 4, 3) := by decide +kernel
theorem dL_areWindows_266 : decode cL_areWindows 266 = .ok (.iconst 0, 1) := by decide +kernel
theorem dL_areWindows_267 : decode cL_areWindows 267 = .ok (.if_icmp .ne 42, 3) := by decide +kernel
theorem dL_areWindows_270 : decode cL_areWindows 270 = .ok (.aload_n 0, 1) := by decide +kernel
theorem dL_areWindows_271 : decode cL_areWindows 271 = .ok (.iload 5, 2) := by decide +kernel
theorem dL_areWindows_273 : decode cL_areWindows 273 = .ok (.iconst 4, 1) := by decide +kernel
theorem dL_areWindows_274 : decode cL_areWindows 274 = .ok (.invokevirtual 26, 3) := by decide +kernel
theorem dL_areWindows_277 : decode cL_areWindows 277 = .ok (.ifCond .eq 28, 3) := by decide +kernel
theorem dL_areWindows_280 : decode cL_areWindows 280 = .ok (.aload_n 1, 1) := by decide +kernel
theorem dL_areWindows_281 : decode cL_areWindows 281 = .ok (.iconst 1, 1) := by decide +kernel
theorem dL_areWindows_282 : decode cL_areWindows 282 = .ok (.iaload, 1) := by decide +kernel
theorem dL_areWindows_283 : decode cL_areWindows 283 = .ok (.iconst 2, 1) := by decide +kernel
theorem dL_areWindows_284 : decode cL_areWindows 284 = .ok (.if_icmp .eq 21, 3) := by decide +kernel
theorem dL_areWindows_287 : decode cL_areWindows 287 = .ok (.aload_n 0, 1) := by decide +kernel
theorem dL_areWindows_288 : decode cL_areWindows 288 = .ok (.iload 6, 2) := by decide +kernel
theorem dL_areWindows_290 : decode cL_areWindows 290 = .ok (.iload 7, 2) := by decide +kernel
theorem dL_areWindows_292 : decode cL_areWindows 292 = .ok (.invokevirtual 79, 3) := by decide +kernel
theorem dL_areWindows_295 : decode cL_areWindows 295 = .ok (.aload_n 0, 1) := by decide +kernel
theorem dL_areWindows_296 : decode cL_areWindows 296 = .ok (.iload 5, 2) := by decide +kernel
theorem dL_areWindows_298 : decode cL_areWindows 298 = .ok (.iconst 3, 1) := by decide +kernel
theorem dL_areWindows_299 : decode cL_areWindows 299 = .ok (.invokevirtual 26, 3) := by decide +kernel
theorem dL_areWindows_302 : decode cL_areWindows 302 = .ok (.if_icmp .ne 7, 3) := by decide +kernel
theorem dL_areWindows_305 : decode cL_areWindows 305 = .ok (.iconst 1, 1) := by decide +kernel
theorem dL_areWindows_306 : decode cL_areWindows 306 = .ok (.goto 4, 3) := by decide +kernel
theorem dL_areWindows_309 : decode cL_areWindows 309 = .ok (.iconst 0, 1) := by decide +kernel
theorem dL_areWindows_310 : decode cL_areWindows 310 = .ok (.istore 4, 2) := by decide +kernel
theorem dL_areWindows_312 : decode cL_areWindows 312 = .ok (.iinc 5 1, 3) := by decide +kernel
theorem dL_areWindows_315 : decode cL_areWindows 315 = .ok (.goto (-288), 3) := by decide +kernel
theorem dL_areWindows_318 : decode cL_areWindows 318 = .ok (.iconst 0, 1) := by decide +kernel
theorem dL_areWindows_319 : decode cL_areWindows 319 = .ok (.istore 5, 2) := by decide +kernel
theorem dL_areWindows_321 : decode cL_areWindows 321 = .ok (.iconst 0, 1) := by decide +kernel
theorem dL_areWindows_322 : decode cL_areWindows 322 = .ok (.istore 6, 2) := by decide +kernel
theorem dL_areWindows_324 : decode cL_areWindows 324 = .ok (.iload 6, 2) := by decide +kernel
theorem dL_areWindows_326 : decode cL_areWindows 326 = .ok (.aload_n 2, 1) := by decide +kernel
theorem dL_areWindows_327 : decode cL_areWindows 327 = .ok (.bipush 7, 2) := by decide +kernel
theorem dL_areWindows_329 : decode cL_areWindows 329 = .ok (.iaload, 1) := by decide +kernel
theorem dL_areWindows_330 : decode cL_areWindows 330 = .ok (.if_icmp .ge 20, 3) := by decide +kernel
theorem dL_areWindows_333 : decode cL_areWindows 333 = .ok (.iload 5, 2) := by decide +kernel
theorem dL_areWindows_335 : decode cL_areWindows 335 = .ok (.aload_n 0, 1) := by decide +kernel
theorem dL_areWindows_336 : decode cL_areWindows 336 = .ok (.iload 6, 2) := by decide +kernel
theorem dL_areWindows_338 : decode cL_areWindows 338 = .ok (.invokevirtual 36, 3) := by decide +kernel
theorem dL_areWindows_341 : decode cL_areWindows 341 = .ok (.iadd, 1) := by decide +kernel
theorem dL_areWindows_342 : decode cL_areWindows 342 = .ok (.istore 5, 2) := by decide +kernel
theorem dL_areWindows_344 : decode cL_areWindows 344 = .ok (.iinc 6 1, 3) := by decide +kernel
theorem dL_areWindows_347 : decode cL_areWindows 347 = .ok (.goto (-23), 3) := by decide +kernel
theorem dL_areWindows_350 : decode cL_areWindows 350 = .ok (.iload 4, 2) := by decide +kernel
theorem dL_areWindows_352 : decode cL_areWindows 352 = .ok (.ifCond .eq 29, 3) := by decide +kernel
theorem dL_areWindows_355 : decode cL_areWindows 355 = .ok (.iload 5, 2) := by decide +kernel
theorem dL_areWindows_357 : decode cL_areWindows 357 = .ok (.iload_n 3, 1) := by decide +kernel
theorem dL_areWindows_358 : decode cL_areWindows 358 = .ok (.if_icmp .ne 23, 3) := by decide +kernel
theorem dL_areWindows_361 : decode cL_areWindows 361 = .ok (.aload_n 0, 1) := by decide +kernel
theorem dL_areWindows_362 : decode cL_areWindows 362 = .ok (.bipush 7, 2) := by decide +kernel
theorem dL_areWindows_364 : decode cL_areWindows 364 = .ok (.aload_n 2, 1) := by decide +kernel
theorem dL_areWindows_365 : decode cL_areWindows 365 = .ok (.bipush 7, 2) := by decide +kernel
theorem dL_areWindows_367 : decode cL_areWindows 367 = .ok (.iaload, 1) := by decide +kernel
theorem dL_areWindows_368 : decode cL_areWindows 368 = .ok (.iconst 0, 1) := by decide +kernel
theorem dL_areWindows_369 : decode cL_areWindows 369 = .ok (.invokestatic 72, 3) := by decide +kernel
theorem dL_areWindows_372 : decode cL_areWindows 372 = .ok (.ldc 44, 2) := by decide +kernel
theorem dL_areWindows_374 : decode cL_areWindows 374 = .ok (.if_icmp .ne 7, 3) := by decide +kernel
theorem dL_areWindows_377 : decode cL_areWindows 377 = .ok (.iconst 1, 1) := by decide +kernel
theorem dL_areWindows_378 : decode cL_areWindows 378 = .ok (.goto 4, 3) := by decide +kernel
theorem dL_areWindows_381 : decode cL_areWindows 381 = .ok (.iconst 0, 1) := by decide +kernel
theorem dL_areWindows_382 : decode cL_areWindows 382 = .ok (.ireturn, 1) := by decide +kernel
theorem dL_areTotals_0 : decode cL_areTotals 0 = .ok (.iconst 1, 1) := by decide +kernel
theorem dL_areTotals_1 : decode cL_areTotals 1 = .ok (.istore 4, 2) := by decide +kernel
theorem dL_areTotals_3 : decode cL_areTotals 3 = .ok (.aload_n 1, 1) := by decide +kernel
theorem dL_areTotals_4 : decode cL_areTotals 4 = .ok (.iconst 1, 1) := by decide +kernel
theorem dL_areTotals_5 : decode cL_areTotals 5 = .ok (.iaload, 1) := by decide +kernel
theorem dL_areTotals_6 : decode cL_areTotals 6 = .ok (.iconst 1, 1) := by decide +kernel
theorem dL_areTotals_7 : decode cL_areTotals 7 = .ok (.if_icmp .ne 9, 3) := by decide +kernel
theorem dL_areTotals_10 : decode cL_areTotals 10 = .ok (.aload_n 1, 1) := by decide +kernel
theorem dL_areTotals_11 : decode cL_areTotals 11 = .ok (.iconst 3, 1) := by decide +kernel
theorem dL_areTotals_12 : decode cL_areTotals 12 = .ok (.iaload, 1) := by decide +kernel
theorem dL_areTotals_13 : decode cL_areTotals 13 = .ok (.goto 6, 3) := by decide +kernel
theorem dL_areTotals_16 : decode cL_areTotals 16 = .ok (.aload_n 1, 1) := by decide +kernel
theorem dL_areTotals_17 : decode cL_areTotals 17 = .ok (.iconst 2, 1) := by decide +kernel
theorem dL_areTotals_18 : decode cL_areTotals 18 = .ok (.iaload, 1) := by decide +kernel
theorem dL_areTotals_19 : decode cL_areTotals 19 = .ok (.istore 5, 2) := by decide +kernel
theorem dL_areTotals_21 : decode cL_areTotals 21 = .ok (.iconst 0, 1) := by decide +kernel
theorem dL_areTotals_22 : decode cL_areTotals 22 = .ok (.istore 6, 2) := by decide +kernel
theorem dL_areTotals_24 : decode cL_areTotals 24 = .ok (.iload 6, 2) := by decide +kernel
theorem dL_areTotals_26 : decode cL_areTotals 26 = .ok (.bipush 8, 2) := by decide +kernel
theorem dL_areTotals_28 : decode cL_areTotals 28 = .ok (.if_icmp .ge 135, 3) := by decide +kernel
theorem dL_areTotals_31 : decode cL_areTotals 31 = .ok (.iload 4, 2) := by decide +kernel
theorem dL_areTotals_33 : decode cL_areTotals 33 = .ok (.ifCond .eq 130, 3) := by decide +kernel
theorem dL_areTotals_36 : decode cL_areTotals 36 = .ok (.iload_n 3, 1) := by decide +kernel
theorem dL_areTotals_37 : decode cL_areTotals 37 = .ok (.iload 6, 2) := by decide +kernel
theorem dL_areTotals_39 : decode cL_areTotals 39 = .ok (.iadd, 1) := by decide +kernel
theorem dL_areTotals_40 : decode cL_areTotals 40 = .ok (.bipush 8, 2) := by decide +kernel
theorem dL_areTotals_42 : decode cL_areTotals 42 = .ok (.irem, 1) := by decide +kernel
theorem dL_areTotals_43 : decode cL_areTotals 43 = .ok (.istore 7, 2) := by decide +kernel
theorem dL_areTotals_45 : decode cL_areTotals 45 = .ok (.iload_n 3, 1) := by decide +kernel
theorem dL_areTotals_46 : decode cL_areTotals 46 = .ok (.bipush 8, 2) := by decide +kernel
theorem dL_areTotals_48 : decode cL_areTotals 48 = .ok (.idiv, 1) := by decide +kernel
theorem dL_areTotals_49 : decode cL_areTotals 49 = .ok (.bipush 8, 2) := by decide +kernel
theorem dL_areTotals_51 : decode cL_areTotals 51 = .ok (.irem, 1) := by decide +kernel
theorem dL_areTotals_52 : decode cL_areTotals 52 = .ok (.iload 5, 2) := by decide +kernel
theorem dL_areTotals_54 : decode cL_areTotals 54 = .ok (.imul, 1) := by decide +kernel
theorem dL_areTotals_55 : decode cL_areTotals 55 = .ok (.iload 6, 2) := by decide +kernel
theorem dL_areTotals_57 : decode cL_areTotals 57 = .ok (.iload 5, 2) := by decide +kernel
theorem dL_areTotals_59 : decode cL_areTotals 59 = .ok (.imul, 1) := by decide +kernel
theorem dL_areTotals_60 : decode cL_areTotals 60 = .ok (.iadd, 1) := by decide +kernel
theorem dL_areTotals_61 : decode cL_areTotals 61 = .ok (.istore 8, 2) := by decide +kernel
theorem dL_areTotals_63 : decode cL_areTotals 63 = .ok (.aload_n 0, 1) := by decide +kernel
theorem dL_areTotals_64 : decode cL_areTotals 64 = .ok (.bipush 6, 2) := by decide +kernel
theorem dL_areTotals_66 : decode cL_areTotals 66 = .ok (.iload 7, 2) := by decide +kernel
theorem dL_areTotals_68 : decode cL_areTotals 68 = .ok (.iload 8, 2) := by decide +kernel
theorem dL_areTotals_70 : decode cL_areTotals 70 = .ok (.invokestatic 72, 3) := by decide +kernel
theorem dL_areTotals_73 : decode cL_areTotals 73 = .ok (.istore 9, 2) := by decide +kernel
theorem dL_areTotals_75 : decode cL_areTotals 75 = .ok (.aload_n 1, 1) := by decide +kernel
theorem dL_areTotals_76 : decode cL_areTotals 76 = .ok (.iconst 1, 1) := by decide +kernel
theorem dL_areTotals_77 : decode cL_areTotals 77 = .ok (.iaload, 1) := by decide +kernel
theorem dL_areTotals_78 : decode cL_areTotals 78 = .ok (.iconst 2, 1) := by decide +kernel
theorem dL_areTotals_79 : decode cL_areTotals 79 = .ok (.if_icmp .eq 10, 3) := by decide +kernel
theorem dL_areTotals_82 : decode cL_areTotals 82 = .ok (.aload_n 2, 1) := by decide +kernel
theorem dL_areTotals_83 : decode cL_areTotals 83 = .ok (.bipush 6, 2) := by decide +kernel
theorem dL_areTotals_85 : decode cL_areTotals 85 = .ok (.iaload, 1) := by decide +kernel
theorem dL_areTotals_86 : decode cL_areTotals 86 = .ok (.ifCond .ne 18, 3) := by decide +kernel
theorem dL_areTotals_89 : decode cL_areTotals 89 = .ok (.iload 9, 2) := by decide +kernel
theorem dL_areTotals_91 : decode cL_areTotals 91 = .ok (.ldc 47, 2) := by decide +kernel
theorem dL_areTotals_93 : decode cL_areTotals 93 = .ok (.if_icmp .ne 7, 3) := by decide +kernel
theorem dL_areTotals_96 : decode cL_areTotals 96 = .ok (.iconst 1, 1) := by decide +kernel
theorem dL_areTotals_97 : decode cL_areTotals 97 = .ok (.goto 58, 3) := by decide +kernel
theorem dL_areTotals_100 : decode cL_areTotals 100 = .ok (.iconst 0, 1) := by decide +kernel
theorem dL_areTotals_101 : decode cL_areTotals 101 = .ok (.goto 54, 3) := by decide +kernel
theorem dL_areTotals_104 : decode cL_areTotals 104 = .ok (.iload 9, 2) := by decide +kernel
theorem dL_areTotals_106 : decode cL_areTotals 106 = .ok (.aload_n 0, 1) := by decide +kernel
theorem dL_areTotals_107 : decode cL_areTotals 107 = .ok (.iload 7, 2) := by decide +kernel
theorem dL_areTotals_109 : decode cL_areTotals 109 = .ok (.iload 8, 2) := by decide +kernel
theorem dL_areTotals_111 : decode cL_areTotals 111 = .ok (.invokevirtual 79, 3) := by decide +kernel
theorem dL_areTotals_114 : decode cL_areTotals 114 = .ok (.if_icmp .ne 40, 3) := by decide +kernel
theorem dL_areTotals_117 : decode cL_areTotals 117 = .ok (.iload 5, 2) := by decide +kernel
theorem dL_areTotals_119 : decode cL_areTotals 119 = .ok (.iconst 1, 1) := by decide +kernel
theorem dL_areTotals_120 : decode cL_areTotals 120 = .ok (.if_icmp .eq 18, 3) := by decide +kernel
theorem dL_areTotals_123 : decode cL_areTotals 123 = .ok (.aload_n 0, 1) := by decide +kernel
theorem dL_areTotals_124 : decode cL_areTotals 124 = .ok (.bipush 6, 2) := by decide +kernel
theorem dL_areTotals_126 : decode cL_areTotals 126 = .ok (.iload 7, 2) := by decide +kernel
theorem dL_areTotals_128 : decode cL_areTotals 128 = .ok (.iload 8, 2) := by decide +kernel
theorem dL_areTotals_130 : decode cL_areTotals 130 = .ok (.iconst 1, 1) := by decide +kernel
theorem dL_areTotals_131 : decode cL_areTotals 131 = .ok (.iadd, 1) := by decide +kernel
theorem dL_areTotals_132 : decode cL_areTotals 132 = .ok (.invokestatic 72, 3) := by decide +kernel
theorem dL_areTotals_135 : decode cL_areTotals 135 = .ok (.ifCond .ne 19, 3) := by decide +kernel
theorem dL_areTotals_138 : decode cL_areTotals 138 = .ok (.aload_n 0, 1) := by decide +kernel
theorem dL_areTotals_139 : decode cL_areTotals 139 = .ok (.bipush 6, 2) := by decide +kernel
theorem dL_areTotals_141 : decode cL_areTotals 141 = .ok (.iload 7, 2) := by decide +kernel
theorem dL_areTotals_143 : decode cL_areTotals 143 = .ok (.iconst (-1), 1) := by decide +kernel
theorem dL_areTotals_144 : decode cL_areTotals 144 = .ok (.invokestatic 72, 3) := by decide +kernel
theorem dL_areTotals_147 : decode cL_areTotals 147 = .ok (.ifCond .ne 7, 3) := by decide +kernel
theorem dL_areTotals_150 : decode cL_areTotals 150 = .ok (.iconst 1, 1) := by decide +kernel
theorem dL_areTotals_151 : decode cL_areTotals 151 = .ok (.goto 4, 3) := by decide +kernel
theorem dL_areTotals_154 : decode cL_areTotals 154 = .ok (.iconst 0, 1) := by decide +kernel
theorem dL_areTotals_155 : decode cL_areTotals 155 = .ok (.istore 4, 2) := by decide +kernel
theorem dL_areTotals_157 : decode cL_areTotals 157 = .ok (.iinc 6 1, 3) := by decide +kernel
theorem dL_areTotals_160 : decode cL_areTotals 160 = .ok (.goto (-136), 3) := by decide +kernel
theorem dL_areTotals_163 : decode cL_areTotals 163 = .ok (.iload 4, 2) := by decide +kernel
theorem dL_areTotals_165 : decode cL_areTotals 165 = .ok (.ireturn, 1) := by decide +kernel
theorem dL_areResults_0 : decode cL_areResults 0 = .ok (.aload_n 0, 1) := by decide +kernel
theorem dL_areResults_1 : decode cL_areResults 1 = .ok (.invokevirtual 82, 3) := by decide +kernel
theorem dL_areResults_4 : decode cL_areResults 4 = .ok (.istore 4, 2) := by decide +kernel
theorem dL_areResults_6 : decode cL_areResults 6 = .ok (.aload_n 0, 1) := by decide +kernel
theorem dL_areResults_7 : decode cL_areResults 7 = .ok (.invokevirtual 85, 3) := by decide +kernel
theorem dL_areResults_10 : decode cL_areResults 10 = .ok (.aload_n 2, 1) := by decide +kernel
theorem dL_areResults_11 : decode cL_areResults 11 = .ok (.iconst 4, 1) := by decide +kernel
theorem dL_areResults_12 : decode cL_areResults 12 = .ok (.iaload, 1) := by decide +kernel
theorem dL_areResults_13 : decode cL_areResults 13 = .ok (.if_icmp .ne 28, 3) := by decide +kernel
theorem dL_areResults_16 : decode cL_areResults 16 = .ok (.iload 4, 2) := by decide +kernel
theorem dL_areResults_18 : decode cL_areResults 18 = .ok (.aload_n 2, 1) := by decide +kernel
theorem dL_areResults_19 : decode cL_areResults 19 = .ok (.iconst 4, 1) := by decide +kernel
theorem dL_areResults_20 : decode cL_areResults 20 = .ok (.iaload, 1) := by decide +kernel
theorem dL_areResults_21 : decode cL_areResults 21 = .ok (.if_icmp .lt 20, 3) := by decide +kernel
theorem dL_areResults_24 : decode cL_areResults 24 = .ok (.aload_n 0, 1) := by decide +kernel
theorem dL_areResults_25 : decode cL_areResults 25 = .ok (.iconst 5, 1) := by decide +kernel
theorem dL_areResults_26 : decode cL_areResults 26 = .ok (.iload 4, 2) := by decide +kernel
theorem dL_areResults_28 : decode cL_areResults 28 = .ok (.iconst 0, 1) := by decide +kernel
theorem dL_areResults_29 : decode cL_areResults 29 = .ok (.invokestatic 72, 3) := by decide +kernel
theorem dL_areResults_32 : decode cL_areResults 32 = .ok (.ldc 44, 2) := by decide +kernel
theorem dL_areResults_34 : decode cL_areResults 34 = .ok (.if_icmp .ne 7, 3) := by decide +kernel
theorem dL_areResults_37 : decode cL_areResults 37 = .ok (.iconst 1, 1) := by decide +kernel
theorem dL_areResults_38 : decode cL_areResults 38 = .ok (.goto 4, 3) := by decide +kernel
theorem dL_areResults_41 : decode cL_areResults 41 = .ok (.iconst 0, 1) := by decide +kernel
theorem dL_areResults_42 : decode cL_areResults 42 = .ok (.istore 5, 2) := by decide +kernel
theorem dL_areResults_44 : decode cL_areResults 44 = .ok (.iload_n 3, 1) := by decide +kernel
theorem dL_areResults_45 : decode cL_areResults 45 = .ok (.istore 6, 2) := by decide +kernel
theorem dL_areResults_47 : decode cL_areResults 47 = .ok (.iload 6, 2) := by decide +kernel
theorem dL_areResults_49 : decode cL_areResults 49 = .ok (.iload 4, 2) := by decide +kernel
theorem dL_areResults_51 : decode cL_areResults 51 = .ok (.if_icmp .ge 102, 3) := by decide +kernel
theorem dL_areResults_54 : decode cL_areResults 54 = .ok (.iload 5, 2) := by decide +kernel
theorem dL_areResults_56 : decode cL_areResults 56 = .ok (.ifCond .eq 97, 3) := by decide +kernel
theorem dL_areResults_59 : decode cL_areResults 59 = .ok (.aload_n 0, 1) := by decide +kernel
theorem dL_areResults_60 : decode cL_areResults 60 = .ok (.iload 6, 2) := by decide +kernel
theorem dL_areResults_62 : decode cL_areResults 62 = .ok (.iconst 4, 1) := by decide +kernel
theorem dL_areResults_63 : decode cL_areResults 63 = .ok (.invokevirtual 30, 3) := by decide +kernel
theorem dL_areResults_66 : decode cL_areResults 66 = .ok (.istore 7, 2) := by decide +kernel
theorem dL_areResults_68 : decode cL_areResults 68 = .ok (.aload_n 0, 1) := by decide +kernel
theorem dL_areResults_69 : decode cL_areResults 69 = .ok (.iload 6, 2) := by decide +kernel
theorem dL_areResults_71 : decode cL_areResults 71 = .ok (.iconst 2, 1) := by decide +kernel
theorem dL_areResults_72 : decode cL_areResults 72 = .ok (.invokevirtual 30, 3) := by decide +kernel
theorem dL_areResults_75 : decode cL_areResults 75 = .ok (.aload_n 0, 1) := by decide +kernel
theorem dL_areResults_76 : decode cL_areResults 76 = .ok (.iload 6, 2) := by decide +kernel
theorem dL_areResults_78 : decode cL_areResults 78 = .ok (.iconst 1, 1) := by decide +kernel
theorem dL_areResults_79 : decode cL_areResults 79 = .ok (.invokevirtual 30, 3) := by decide +kernel
theorem dL_areResults_82 : decode cL_areResults 82 = .ok (.if_icmp .le 62, 3) := by decide +kernel
theorem dL_areResults_85 : decode cL_areResults 85 = .ok (.aload_n 0, 1) := by decide +kernel
theorem dL_areResults_86 : decode cL_areResults 86 = .ok (.iload 6, 2) := by decide +kernel
theorem dL_areResults_88 : decode cL_areResults 88 = .ok (.iconst 2, 1) := by decide +kernel
theorem dL_areResults_89 : decode cL_areResults 89 = .ok (.invokevirtual 30, 3) := by decide +kernel
theorem dL_areResults_92 : decode cL_areResults 92 = .ok (.aload_n 0, 1) := by decide +kernel
theorem dL_areResults_93 : decode cL_areResults 93 = .ok (.invokevirtual 76, 3) := by decide +kernel
theorem dL_areResults_96 : decode cL_areResults 96 = .ok (.if_icmp .le 9, 3) := by decide +kernel
theorem dL_areResults_99 : decode cL_areResults 99 = .ok (.iload 7, 2) := by decide +kernel
theorem dL_areResults_101 : decode cL_areResults 101 = .ok (.iconst 2, 1) := by decide +kernel
theorem dL_areResults_102 : decode cL_areResults 102 = .ok (.if_icmp .ne 42, 3) := by decide +kernel
theorem dL_areResults_105 : decode cL_areResults 105 = .ok (.aload_n 0, 1) := by decide +kernel
theorem dL_areResults_106 : decode cL_areResults 106 = .ok (.iload 6, 2) := by decide +kernel
theorem dL_areResults_108 : decode cL_areResults 108 = .ok (.iconst 0, 1) := by decide +kernel
theorem dL_areResults_109 : decode cL_areResults 109 = .ok (.invokevirtual 30, 3) := by decide +kernel
theorem dL_areResults_112 : decode cL_areResults 112 = .ok (.bipush 8, 2) := by decide +kernel
theorem dL_areResults_114 : decode cL_areResults 114 = .ok (.if_icmp .ge 30, 3) := by decide +kernel
theorem dL_areResults_117 : decode cL_areResults 117 = .ok (.iload 7, 2) := by decide +kernel
theorem dL_areResults_119 : decode cL_areResults 119 = .ok (.iconst 2, 1) := by decide +kernel
theorem dL_areResults_120 : decode cL_areResults 120 = .ok (.if_icmp .eq 20, 3) := by decide +kernel
theorem dL_areResults_123 : decode cL_areResults 123 = .ok (.iload 7, 2) := by decide +kernel
theorem dL_areResults_125 : decode cL_areResults 125 = .ok (.aload_n 1, 1) := by decide +kernel
theorem dL_areResults_126 : decode cL_areResults 126 = .ok (.iconst 5, 1) := by decide +kernel
theorem dL_areResults_127 : decode cL_areResults 127 = .ok (.iaload, 1) := by decide +kernel
theorem dL_areResults_128 : decode cL_areResults 128 = .ok (.iconst 2, 1) := by decide +kernel
theorem dL_areResults_129 : decode cL_areResults 129 = .ok (.if_icmp .ge 7, 3) := by decide +kernel
theorem dL_areResults_132 : decode cL_areResults 132 = .ok (.iconst 0, 1) := by decide +kernel
theorem dL_areResults_133 : decode cL_areResults 133 = .ok (.goto 4, 3) := by decide +kernel
theorem dL_areResults_136 : decode cL_areResults 136 = .ok (.iconst 1, 1) := by decide +kernel
theorem dL_areResults_137 : decode cL_areResults 137 = .ok (.if_icmp .ne 7, 3) := by decide +kernel
theorem dL_areResults_140 : decode cL_areResults 140 = .ok (.iconst 1, 1) := by decide +kernel
theorem dL_areResults_141 : decode cL_areResults 141 = .ok (.goto 4, 3) := by decide +kernel
theorem dL_areResults_144 : decode cL_areResults 144 = .ok (.iconst 0, 1) := by decide +kernel
theorem dL_areResults_145 : decode cL_areResults 145 = .ok (.istore 5, 2) := by decide +kernel
theorem dL_areResults_147 : decode cL_areResults 147 = .ok (.iinc 6 1, 3) := by decide +kernel
theorem dL_areResults_150 : decode cL_areResults 150 = .ok (.goto (-103), 3) := by decide +kernel
theorem dL_areResults_153 : decode cL_areResults 153 = .ok (.iload 5, 2) := by decide +kernel
theorem dL_areResults_155 : decode cL_areResults 155 = .ok (.ireturn, 1) := by decide +kernel
theorem dL_begins_0 : decode cL_begins 0 = .ok (.bipush 7, 2) := by decide +kernel
theorem dL_begins_2 : decode cL_begins 2 = .ok (.newarray .int, 2) := by decide +kernel
theorem dL_begins_4 : decode cL_begins 4 = .ok (.astore 5, 2) := by decide +kernel
theorem dL_begins_6 : decode cL_begins 6 = .ok (.iconst 0, 1) := by decide +kernel
theorem dL_begins_7 : decode cL_begins 7 = .ok (.istore 6, 2) := by decide +kernel
theorem dL_begins_9 : decode cL_begins 9 = .ok (.iload 6, 2) := by decide +kernel
theorem dL_begins_11 : decode cL_begins 11 = .ok (.bipush 7, 2) := by decide +kernel
theorem dL_begins_13 : decode cL_begins 13 = .ok (.if_icmp .ge 18, 3) := by decide +kernel
theorem dL_begins_16 : decode cL_begins 16 = .ok (.aload 5, 2) := by decide +kernel
theorem dL_begins_18 : decode cL_begins 18 = .ok (.iload 6, 2) := by decide +kernel
theorem dL_begins_20 : decode cL_begins 20 = .ok (.aload_n 3, 1) := by decide +kernel
theorem dL_begins_21 : decode cL_begins 21 = .ok (.iload 6, 2) := by decide +kernel
theorem dL_begins_23 : decode cL_begins 23 = .ok (.iaload, 1) := by decide +kernel
theorem dL_begins_24 : decode cL_begins 24 = .ok (.iastore, 1) := by decide +kernel
theorem dL_begins_25 : decode cL_begins 25 = .ok (.iinc 6 1, 3) := by decide +kernel
theorem dL_begins_28 : decode cL_begins 28 = .ok (.goto (-19), 3) := by decide +kernel
theorem dL_begins_31 : decode cL_begins 31 = .ok (.aload_n 0, 1) := by decide +kernel
theorem dL_begins_32 : decode cL_begins 32 = .ok (.iload_n 1, 1) := by decide +kernel
theorem dL_begins_33 : decode cL_begins 33 = .ok (.iload_n 2, 1) := by decide +kernel
theorem dL_begins_34 : decode cL_begins 34 = .ok (.aload_n 3, 1) := by decide +kernel
theorem dL_begins_35 : decode cL_begins 35 = .ok (.invokestatic 88, 3) := by decide +kernel
theorem dL_begins_38 : decode cL_begins 38 = .ok (.istore 6, 2) := by decide +kernel
theorem dL_begins_40 : decode cL_begins 40 = .ok (.iload_n 1, 1) := by decide +kernel
theorem dL_begins_41 : decode cL_begins 41 = .ok (.ldc 92, 2) := by decide +kernel
theorem dL_begins_43 : decode cL_begins 43 = .ok (.idiv, 1) := by decide +kernel
theorem dL_begins_44 : decode cL_begins 44 = .ok (.iconst 3, 1) := by decide +kernel
theorem dL_begins_45 : decode cL_begins 45 = .ok (.irem, 1) := by decide +kernel
theorem dL_begins_46 : decode cL_begins 46 = .ok (.ifCond .ne 7, 3) := by decide +kernel
theorem dL_begins_49 : decode cL_begins 49 = .ok (.iconst 1, 1) := by decide +kernel
theorem dL_begins_50 : decode cL_begins 50 = .ok (.goto 4, 3) := by decide +kernel
theorem dL_begins_53 : decode cL_begins 53 = .ok (.iconst 0, 1) := by decide +kernel
theorem dL_begins_54 : decode cL_begins 54 = .ok (.istore 7, 2) := by decide +kernel
theorem dL_begins_56 : decode cL_begins 56 = .ok (.aload_n 0, 1) := by decide +kernel
theorem dL_begins_57 : decode cL_begins 57 = .ok (.invokevirtual 69, 3) := by decide +kernel
theorem dL_begins_60 : decode cL_begins 60 = .ok (.istore 8, 2) := by decide +kernel
theorem dL_begins_62 : decode cL_begins 62 = .ok (.aload 4, 2) := by decide +kernel
theorem dL_begins_64 : decode cL_begins 64 = .ok (.bipush 6, 2) := by decide +kernel
theorem dL_begins_66 : decode cL_begins 66 = .ok (.iaload, 1) := by decide +kernel
theorem dL_begins_67 : decode cL_begins 67 = .ok (.iconst 1, 1) := by decide +kernel
theorem dL_begins_68 : decode cL_begins 68 = .ok (.if_icmp .ne 57, 3) := by decide +kernel
theorem dL_begins_71 : decode cL_begins 71 = .ok (.aload_n 3, 1) := by decide +kernel
theorem dL_begins_72 : decode cL_begins 72 = .ok (.iconst 0, 1) := by decide +kernel
theorem dL_begins_73 : decode cL_begins 73 = .ok (.iaload, 1) := by decide +kernel
theorem dL_begins_74 : decode cL_begins 74 = .ok (.aload 5, 2) := by decide +kernel
theorem dL_begins_76 : decode cL_begins 76 = .ok (.iconst 0, 1) := by decide +kernel
theorem dL_begins_77 : decode cL_begins 77 = .ok (.iaload, 1) := by decide +kernel
theorem dL_begins_78 : decode cL_begins 78 = .ok (.if_icmp .ne 47, 3) := by decide +kernel
theorem dL_begins_81 : decode cL_begins 81 = .ok (.aload_n 3, 1) := by decide +kernel
theorem dL_begins_82 : decode cL_begins 82 = .ok (.iconst 1, 1) := by decide +kernel
theorem dL_begins_83 : decode cL_begins 83 = .ok (.iaload, 1) := by decide +kernel
theorem dL_begins_84 : decode cL_begins 84 = .ok (.aload 5, 2) := by decide +kernel
theorem dL_begins_86 : decode cL_begins 86 = .ok (.iconst 1, 1) := by decide +kernel
theorem dL_begins_87 : decode cL_begins 87 = .ok (.iaload, 1) := by decide +kernel
theorem dL_begins_88 : decode cL_begins 88 = .ok (.if_icmp .ne 37, 3) := by decide +kernel
theorem dL_begins_91 : decode cL_begins 91 = .ok (.aload_n 3, 1) := by decide +kernel
theorem dL_begins_92 : decode cL_begins 92 = .ok (.iconst 2, 1) := by decide +kernel
theorem dL_begins_93 : decode cL_begins 93 = .ok (.iaload, 1) := by decide +kernel
theorem dL_begins_94 : decode cL_begins 94 = .ok (.aload 5, 2) := by decide +kernel
theorem dL_begins_96 : decode cL_begins 96 = .ok (.iconst 2, 1) := by decide +kernel
theorem dL_begins_97 : decode cL_begins 97 = .ok (.iaload, 1) := by decide +kernel
theorem dL_begins_98 : decode cL_begins 98 = .ok (.if_icmp .ne 27, 3) := by decide +kernel
theorem dL_begins_101 : decode cL_begins 101 = .ok (.aload_n 3, 1) := by decide +kernel
theorem dL_begins_102 : decode cL_begins 102 = .ok (.iconst 3, 1) := by decide +kernel
theorem dL_begins_103 : decode cL_begins 103 = .ok (.iaload, 1) := by decide +kernel
theorem dL_begins_104 : decode cL_begins 104 = .ok (.aload 5, 2) := by decide +kernel
theorem dL_begins_106 : decode cL_begins 106 = .ok (.iconst 3, 1) := by decide +kernel
theorem dL_begins_107 : decode cL_begins 107 = .ok (.iaload, 1) := by decide +kernel
theorem dL_begins_108 : decode cL_begins 108 = .ok (.if_icmp .ne 17, 3) := by decide +kernel
theorem dL_begins_111 : decode cL_begins 111 = .ok (.aload_n 3, 1) := by decide +kernel
theorem dL_begins_112 : decode cL_begins 112 = .ok (.iconst 4, 1) := by decide +kernel
theorem dL_begins_113 : decode cL_begins 113 = .ok (.iaload, 1) := by decide +kernel
theorem dL_begins_114 : decode cL_begins 114 = .ok (.aload 5, 2) := by decide +kernel
theorem dL_begins_116 : decode cL_begins 116 = .ok (.iconst 4, 1) := by decide +kernel
theorem dL_begins_117 : decode cL_begins 117 = .ok (.iaload, 1) := by decide +kernel
theorem dL_begins_118 : decode cL_begins 118 = .ok (.if_icmp .gt 7, 3) := by decide +kernel
theorem dL_begins_121 : decode cL_begins 121 = .ok (.iconst 1, 1) := by decide +kernel
theorem dL_begins_122 : decode cL_begins 122 = .ok (.goto 4, 3) := by decide +kernel
theorem dL_begins_125 : decode cL_begins 125 = .ok (.iconst 0, 1) := by decide +kernel
theorem dL_begins_126 : decode cL_begins 126 = .ok (.istore 9, 2) := by decide +kernel
theorem dL_begins_128 : decode cL_begins 128 = .ok (.aload_n 0, 1) := by decide +kernel
theorem dL_begins_129 : decode cL_begins 129 = .ok (.invokevirtual 93, 3) := by decide +kernel
theorem dL_begins_132 : decode cL_begins 132 = .ok (.iconst (-1), 1) := by decide +kernel
theorem dL_begins_133 : decode cL_begins 133 = .ok (.if_icmp .ne 7, 3) := by decide +kernel
theorem dL_begins_136 : decode cL_begins 136 = .ok (.iconst 1, 1) := by decide +kernel
theorem dL_begins_137 : decode cL_begins 137 = .ok (.goto 4, 3) := by decide +kernel
theorem dL_begins_140 : decode cL_begins 140 = .ok (.iconst 0, 1) := by decide +kernel
theorem dL_begins_141 : decode cL_begins 141 = .ok (.istore 10, 2) := by decide +kernel
theorem dL_begins_143 : decode cL_begins 143 = .ok (.aload_n 0, 1) := by decide +kernel
theorem dL_begins_144 : decode cL_begins 144 = .ok (.iload 7, 2) := by decide +kernel
theorem dL_begins_146 : decode cL_begins 146 = .ok (.invokestatic 96, 3) := by decide +kernel
theorem dL_begins_149 : decode cL_begins 149 = .ok (.istore 11, 2) := by decide +kernel
theorem dL_begins_151 : decode cL_begins 151 = .ok (.iload 6, 2) := by decide +kernel
theorem dL_begins_153 : decode cL_begins 153 = .ok (.ifCond .eq 13, 3) := by decide +kernel
theorem dL_begins_156 : decode cL_begins 156 = .ok (.iload 7, 2) := by decide +kernel
theorem dL_begins_158 : decode cL_begins 158 = .ok (.ifCond .eq 68, 3) := by decide +kernel
theorem dL_begins_161 : decode cL_begins 161 = .ok (.iload 9, 2) := by decide +kernel
theorem dL_begins_163 : decode cL_begins 163 = .ok (.ifCond .ne 63, 3) := by decide +kernel
theorem dL_begins_166 : decode cL_begins 166 = .ok (.iconst 0, 1) := by decide +kernel
theorem dL_begins_167 : decode cL_begins 167 = .ok (.istore 12, 2) := by decide +kernel
theorem dL_begins_169 : decode cL_begins 169 = .ok (.iload 12, 2) := by decide +kernel
theorem dL_begins_171 : decode cL_begins 171 = .ok (.bipush 7, 2) := by decide +kernel
theorem dL_begins_173 : decode cL_begins 173 = .ok (.if_icmp .ge 18, 3) := by decide +kernel
theorem dL_begins_176 : decode cL_begins 176 = .ok (.aload_n 3, 1) := by decide +kernel
theorem dL_begins_177 : decode cL_begins 177 = .ok (.iload 12, 2) := by decide +kernel
theorem dL_begins_179 : decode cL_begins 179 = .ok (.aload 5, 2) := by decide +kernel
theorem dL_begins_181 : decode cL_begins 181 = .ok (.iload 12, 2) := by decide +kernel
theorem dL_begins_183 : decode cL_begins 183 = .ok (.iaload, 1) := by decide +kernel
theorem dL_begins_184 : decode cL_begins 184 = .ok (.iastore, 1) := by decide +kernel
theorem dL_begins_185 : decode cL_begins 185 = .ok (.iinc 12 1, 3) := by decide +kernel
theorem dL_begins_188 : decode cL_begins 188 = .ok (.goto (-19), 3) := by decide +kernel
theorem dL_begins_191 : decode cL_begins 191 = .ok (.iload 10, 2) := by decide +kernel
theorem dL_begins_193 : decode cL_begins 193 = .ok (.ifCond .eq 31, 3) := by decide +kernel
theorem dL_begins_196 : decode cL_begins 196 = .ok (.iload 11, 2) := by decide +kernel
theorem dL_begins_198 : decode cL_begins 198 = .ok (.iload 6, 2) := by decide +kernel
theorem dL_begins_200 : decode cL_begins 200 = .ok (.ifCond .eq 8, 3) := by decide +kernel
theorem dL_begins_203 : decode cL_begins 203 = .ok (.ldc 47, 2) := by decide +kernel
theorem dL_begins_205 : decode cL_begins 205 = .ok (.goto 5, 3) := by decide +kernel
theorem dL_begins_208 : decode cL_begins 208 = .ok (.ldc 54, 2) := by decide +kernel
theorem dL_begins_210 : decode cL_begins 210 = .ok (.if_icmp .ne 14, 3) := by decide +kernel
theorem dL_begins_213 : decode cL_begins 213 = .ok (.aload_n 0, 1) := by decide +kernel
theorem dL_begins_214 : decode cL_begins 214 = .ok (.invokevirtual 100, 3) := by decide +kernel
theorem dL_begins_217 : decode cL_begins 217 = .ok (.ifCond .le 7, 3) := by decide +kernel
theorem dL_begins_220 : decode cL_begins 220 = .ok (.iconst 1, 1) := by decide +kernel
theorem dL_begins_221 : decode cL_begins 221 = .ok (.goto 4, 3) := by decide +kernel
theorem dL_begins_224 : decode cL_begins 224 = .ok (.iconst 0, 1) := by decide +kernel
theorem dL_begins_225 : decode cL_begins 225 = .ok (.ireturn, 1) := by decide +kernel
theorem dL_begins_226 : decode cL_begins 226 = .ok (.iload 10, 2) := by decide +kernel
theorem dL_begins_228 : decode cL_begins 228 = .ok (.ifCond .eq 39, 3) := by decide +kernel
theorem dL_begins_231 : decode cL_begins 231 = .ok (.iload 11, 2) := by decide +kernel
theorem dL_begins_233 : decode cL_begins 233 = .ok (.iload 7, 2) := by decide +kernel
theorem dL_begins_235 : decode cL_begins 235 = .ok (.ifCond .eq 8, 3) := by decide +kernel
theorem dL_begins_238 : decode cL_begins 238 = .ok (.iload 8, 2) := by decide +kernel
theorem dL_begins_240 : decode cL_begins 240 = .ok (.goto 4, 3) := by decide +kernel
theorem dL_begins_243 : decode cL_begins 243 = .ok (.iconst 0, 1) := by decide +kernel
theorem dL_begins_244 : decode cL_begins 244 = .ok (.if_icmp .ne 23, 3) := by decide +kernel
theorem dL_begins_247 : decode cL_begins 247 = .ok (.aload_n 0, 1) := by decide +kernel
theorem dL_begins_248 : decode cL_begins 248 = .ok (.invokevirtual 69, 3) := by decide +kernel
theorem dL_begins_251 : decode cL_begins 251 = .ok (.iload 11, 2) := by decide +kernel
theorem dL_begins_253 : decode cL_begins 253 = .ok (.if_icmp .ne 14, 3) := by decide +kernel
theorem dL_begins_256 : decode cL_begins 256 = .ok (.aload_n 0, 1) := by decide +kernel
theorem dL_begins_257 : decode cL_begins 257 = .ok (.invokevirtual 100, 3) := by decide +kernel
theorem dL_begins_260 : decode cL_begins 260 = .ok (.ifCond .ne 7, 3) := by decide +kernel
theorem dL_begins_263 : decode cL_begins 263 = .ok (.iconst 1, 1) := by decide +kernel
theorem dL_begins_264 : decode cL_begins 264 = .ok (.goto 4, 3) := by decide +kernel
theorem dL_begins_267 : decode cL_begins 267 = .ok (.iconst 0, 1) := by decide +kernel
theorem dL_begins_268 : decode cL_begins 268 = .ok (.istore 10, 2) := by decide +kernel
theorem dL_begins_270 : decode cL_begins 270 = .ok (.iload 7, 2) := by decide +kernel
theorem dL_begins_272 : decode cL_begins 272 = .ok (.ifCond .ne 85, 3) := by decide +kernel
theorem dL_begins_275 : decode cL_begins 275 = .ok (.aload 4, 2) := by decide +kernel
theorem dL_begins_277 : decode cL_begins 277 = .ok (.iconst 3, 1) := by decide +kernel
theorem dL_begins_278 : decode cL_begins 278 = .ok (.iconst 0, 1) := by decide +kernel
theorem dL_begins_279 : decode cL_begins 279 = .ok (.iastore, 1) := by decide +kernel
theorem dL_begins_280 : decode cL_begins 280 = .ok (.aload 4, 2) := by decide +kernel
theorem dL_begins_282 : decode cL_begins 282 = .ok (.iconst 4, 1) := by decide +kernel
theorem dL_begins_283 : decode cL_begins 283 = .ok (.iconst 0, 1) := by decide +kernel
theorem dL_begins_284 : decode cL_begins 284 = .ok (.iastore, 1) := by decide +kernel
theorem dL_begins_285 : decode cL_begins 285 = .ok (.aload 4, 2) := by decide +kernel
theorem dL_begins_287 : decode cL_begins 287 = .ok (.iconst 5, 1) := by decide +kernel
theorem dL_begins_288 : decode cL_begins 288 = .ok (.iconst 0, 1) := by decide +kernel
theorem dL_begins_289 : decode cL_begins 289 = .ok (.iastore, 1) := by decide +kernel
theorem dL_begins_290 : decode cL_begins 290 = .ok (.aload 4, 2) := by decide +kernel
theorem dL_begins_292 : decode cL_begins 292 = .ok (.bipush 8, 2) := by decide +kernel
theorem dL_begins_294 : decode cL_begins 294 = .ok (.iconst (-1), 1) := by decide +kernel
theorem dL_begins_295 : decode cL_begins 295 = .ok (.iastore, 1) := by decide +kernel
theorem dL_begins_296 : decode cL_begins 296 = .ok (.iload 10, 2) := by decide +kernel
theorem dL_begins_298 : decode cL_begins 298 = .ok (.ifCond .eq 56, 3) := by decide +kernel
theorem dL_begins_301 : decode cL_begins 301 = .ok (.aload_n 0, 1) := by decide +kernel
theorem dL_begins_302 : decode cL_begins 302 = .ok (.invokevirtual 82, 3) := by decide +kernel
theorem dL_begins_305 : decode cL_begins 305 = .ok (.ifCond .ne 49, 3) := by decide +kernel
theorem dL_begins_308 : decode cL_begins 308 = .ok (.aload_n 0, 1) := by decide +kernel
theorem dL_begins_309 : decode cL_begins 309 = .ok (.invokevirtual 76, 3) := by decide +kernel
theorem dL_begins_312 : decode cL_begins 312 = .ok (.iconst (-1), 1) := by decide +kernel
theorem dL_begins_313 : decode cL_begins 313 = .ok (.if_icmp .ne 41, 3) := by decide +kernel
theorem dL_begins_316 : decode cL_begins 316 = .ok (.aload_n 0, 1) := by decide +kernel
theorem dL_begins_317 : decode cL_begins 317 = .ok (.invokevirtual 103, 3) := by decide +kernel
theorem dL_begins_320 : decode cL_begins 320 = .ok (.ifCond .ne 34, 3) := by decide +kernel
theorem dL_begins_323 : decode cL_begins 323 = .ok (.aload_n 0, 1) := by decide +kernel
theorem dL_begins_324 : decode cL_begins 324 = .ok (.iconst 0, 1) := by decide +kernel
theorem dL_begins_325 : decode cL_begins 325 = .ok (.invokevirtual 106, 3) := by decide +kernel
theorem dL_begins_328 : decode cL_begins 328 = .ok (.aload_n 0, 1) := by decide +kernel
theorem dL_begins_329 : decode cL_begins 329 = .ok (.iconst 1, 1) := by decide +kernel
theorem dL_begins_330 : decode cL_begins 330 = .ok (.invokevirtual 106, 3) := by decide +kernel
theorem dL_begins_333 : decode cL_begins 333 = .ok (.iadd, 1) := by decide +kernel
theorem dL_begins_334 : decode cL_begins 334 = .ok (.aload_n 0, 1) := by decide +kernel
theorem dL_begins_335 : decode cL_begins 335 = .ok (.iconst 2, 1) := by decide +kernel
theorem dL_begins_336 : decode cL_begins 336 = .ok (.invokevirtual 106, 3) := by decide +kernel
theorem dL_begins_339 : decode cL_begins 339 = .ok (.iadd, 1) := by decide +kernel
theorem dL_begins_340 : decode cL_begins 340 = .ok (.ifCond .ne 14, 3) := by decide +kernel
theorem dL_begins_343 : decode cL_begins 343 = .ok (.aload_n 0, 1) := by decide +kernel
theorem dL_begins_344 : decode cL_begins 344 = .ok (.invokevirtual 109, 3) := by decide +kernel
theorem dL_begins_347 : decode cL_begins 347 = .ok (.ifCond .ne 7, 3) := by decide +kernel
theorem dL_begins_350 : decode cL_begins 350 = .ok (.iconst 1, 1) := by decide +kernel
theorem dL_begins_351 : decode cL_begins 351 = .ok (.goto 4, 3) := by decide +kernel
theorem dL_begins_354 : decode cL_begins 354 = .ok (.iconst 0, 1) := by decide +kernel
theorem dL_begins_355 : decode cL_begins 355 = .ok (.istore 10, 2) := by decide +kernel
theorem dL_begins_357 : decode cL_begins 357 = .ok (.aload 4, 2) := by decide +kernel
theorem dL_begins_359 : decode cL_begins 359 = .ok (.bipush 6, 2) := by decide +kernel
theorem dL_begins_361 : decode cL_begins 361 = .ok (.iconst 1, 1) := by decide +kernel
theorem dL_begins_362 : decode cL_begins 362 = .ok (.iastore, 1) := by decide +kernel
theorem dL_begins_363 : decode cL_begins 363 = .ok (.iload 10, 2) := by decide +kernel
theorem dL_begins_365 : decode cL_begins 365 = .ok (.ireturn, 1) := by decide +kernel
theorem dL_bits_0 : decode cL_bits 0 = .ok (.iconst 0, 1) := by decide +kernel
theorem dL_bits_1 : decode cL_bits 1 = .ok (.istore_n 1, 1) := by decide +kernel
theorem dL_bits_2 : decode cL_bits 2 = .ok (.iconst 0, 1) := by decide +kernel
theorem dL_bits_3 : decode cL_bits 3 = .ok (.istore_n 2, 1) := by decide +kernel
theorem dL_bits_4 : decode cL_bits 4 = .ok (.iload_n 2, 1) := by decide +kernel
theorem dL_bits_5 : decode cL_bits 5 = .ok (.bipush 31, 2) := by decide +kernel
theorem dL_bits_7 : decode cL_bits 7 = .ok (.if_icmp .ge 17, 3) := by decide +kernel
theorem dL_bits_10 : decode cL_bits 10 = .ok (.iload_n 1, 1) := by decide +kernel
theorem dL_bits_11 : decode cL_bits 11 = .ok (.iload_n 0, 1) := by decide +kernel
theorem dL_bits_12 : decode cL_bits 12 = .ok (.iload_n 2, 1) := by decide +kernel
theorem dL_bits_13 : decode cL_bits 13 = .ok (.ishr, 1) := by decide +kernel
theorem dL_bits_14 : decode cL_bits 14 = .ok (.iconst 1, 1) := by decide +kernel
theorem dL_bits_15 : decode cL_bits 15 = .ok (.iand, 1) := by decide +kernel
theorem dL_bits_16 : decode cL_bits 16 = .ok (.iadd, 1) := by decide +kernel
theorem dL_bits_17 : decode cL_bits 17 = .ok (.istore_n 1, 1) := by decide +kernel
theorem dL_bits_18 : decode cL_bits 18 = .ok (.iinc 2 1, 3) := by decide +kernel
theorem dL_bits_21 : decode cL_bits 21 = .ok (.goto (-17), 3) := by decide +kernel
theorem dL_bits_24 : decode cL_bits 24 = .ok (.iload_n 1, 1) := by decide +kernel
theorem dL_bits_25 : decode cL_bits 25 = .ok (.ireturn, 1) := by decide +kernel
theorem dL_steps_0 : decode cL_steps 0 = .ok (.aload_n 0, 1) := by decide +kernel
theorem dL_steps_1 : decode cL_steps 1 = .ok (.iload_n 1, 1) := by decide +kernel
theorem dL_steps_2 : decode cL_steps 2 = .ok (.invokevirtual 106, 3) := by decide +kernel
theorem dL_steps_5 : decode cL_steps 5 = .ok (.istore_n 3, 1) := by decide +kernel
theorem dL_steps_6 : decode cL_steps 6 = .ok (.aload_n 0, 1) := by decide +kernel
theorem dL_steps_7 : decode cL_steps 7 = .ok (.invokevirtual 82, 3) := by decide +kernel
theorem dL_steps_10 : decode cL_steps 10 = .ok (.istore 4, 2) := by decide +kernel
theorem dL_steps_12 : decode cL_steps 12 = .ok (.aload_n 0, 1) := by decide +kernel
theorem dL_steps_13 : decode cL_steps 13 = .ok (.invokevirtual 103, 3) := by decide +kernel
theorem dL_steps_16 : decode cL_steps 16 = .ok (.istore 5, 2) := by decide +kernel
theorem dL_steps_18 : decode cL_steps 18 = .ok (.aload_n 0, 1) := by decide +kernel
theorem dL_steps_19 : decode cL_steps 19 = .ok (.iconst 0, 1) := by decide +kernel
theorem dL_steps_20 : decode cL_steps 20 = .ok (.iload_n 1, 1) := by decide +kernel
theorem dL_steps_21 : decode cL_steps 21 = .ok (.iconst 0, 1) := by decide +kernel
theorem dL_steps_22 : decode cL_steps 22 = .ok (.invokestatic 72, 3) := by decide +kernel
theorem dL_steps_25 : decode cL_steps 25 = .ok (.istore 6, 2) := by decide +kernel
theorem dL_steps_27 : decode cL_steps 27 = .ok (.aload_n 2, 1) := by decide +kernel
theorem dL_steps_28 : decode cL_steps 28 = .ok (.bipush 6, 2) := by decide +kernel
theorem dL_steps_30 : decode cL_steps 30 = .ok (.iaload, 1) := by decide +kernel
theorem dL_steps_31 : decode cL_steps 31 = .ok (.ifCond .ne 16, 3) := by decide +kernel
theorem dL_steps_34 : decode cL_steps 34 = .ok (.iload 6, 2) := by decide +kernel
theorem dL_steps_36 : decode cL_steps 36 = .ok (.ldc 47, 2) := by decide +kernel
theorem dL_steps_38 : decode cL_steps 38 = .ok (.if_icmp .ne 7, 3) := by decide +kernel
theorem dL_steps_41 : decode cL_steps 41 = .ok (.iconst 1, 1) := by decide +kernel
theorem dL_steps_42 : decode cL_steps 42 = .ok (.goto 4, 3) := by decide +kernel
theorem dL_steps_45 : decode cL_steps 45 = .ok (.iconst 0, 1) := by decide +kernel
theorem dL_steps_46 : decode cL_steps 46 = .ok (.ireturn, 1) := by decide +kernel
theorem dL_steps_47 : decode cL_steps 47 = .ok (.iload 6, 2) := by decide +kernel
theorem dL_steps_49 : decode cL_steps 49 = .ok (.ldc 47, 2) := by decide +kernel
theorem dL_steps_51 : decode cL_steps 51 = .ok (.if_icmp .ne 29, 3) := by decide +kernel
theorem dL_steps_54 : decode cL_steps 54 = .ok (.iload 4, 2) := by decide +kernel
theorem dL_steps_56 : decode cL_steps 56 = .ok (.aload_n 2, 1) := by decide +kernel
theorem dL_steps_57 : decode cL_steps 57 = .ok (.iconst 4, 1) := by decide +kernel
theorem dL_steps_58 : decode cL_steps 58 = .ok (.iaload, 1) := by decide +kernel
theorem dL_steps_59 : decode cL_steps 59 = .ok (.isub, 1) := by decide +kernel
theorem dL_steps_60 : decode cL_steps 60 = .ok (.bipush 30, 2) := by decide +kernel
theorem dL_steps_62 : decode cL_steps 62 = .ok (.if_icmp .lt 16, 3) := by decide +kernel
theorem dL_steps_65 : decode cL_steps 65 = .ok (.aload_n 0, 1) := by decide +kernel
theorem dL_steps_66 : decode cL_steps 66 = .ok (.iload_n 1, 1) := by decide +kernel
theorem dL_steps_67 : decode cL_steps 67 = .ok (.invokevirtual 106, 3) := by decide +kernel
theorem dL_steps_70 : decode cL_steps 70 = .ok (.iload_n 3, 1) := by decide +kernel
theorem dL_steps_71 : decode cL_steps 71 = .ok (.if_icmp .ne 7, 3) := by decide +kernel
theorem dL_steps_74 : decode cL_steps 74 = .ok (.iconst 1, 1) := by decide +kernel
theorem dL_steps_75 : decode cL_steps 75 = .ok (.goto 4, 3) := by decide +kernel
theorem dL_steps_78 : decode cL_steps 78 = .ok (.iconst 0, 1) := by decide +kernel
theorem dL_steps_79 : decode cL_steps 79 = .ok (.ireturn, 1) := by decide +kernel
theorem dL_steps_80 : decode cL_steps 80 = .ok (.iload_n 3, 1) := by decide +kernel
theorem dL_steps_81 : decode cL_steps 81 = .ok (.aload_n 2, 1) := by decide +kernel
theorem dL_steps_82 : decode cL_steps 82 = .ok (.iload_n 1, 1) := by decide +kernel
theorem dL_steps_83 : decode cL_steps 83 = .ok (.iaload, 1) := by decide +kernel
theorem dL_steps_84 : decode cL_steps 84 = .ok (.if_icmp .ne 25, 3) := by decide +kernel
theorem dL_steps_87 : decode cL_steps 87 = .ok (.iload 6, 2) := by decide +kernel
theorem dL_steps_89 : decode cL_steps 89 = .ok (.ldc 41, 2) := by decide +kernel
theorem dL_steps_91 : decode cL_steps 91 = .ok (.if_icmp .ne 16, 3) := by decide +kernel
theorem dL_steps_94 : decode cL_steps 94 = .ok (.aload_n 0, 1) := by decide +kernel
theorem dL_steps_95 : decode cL_steps 95 = .ok (.invokevirtual 82, 3) := by decide +kernel
theorem dL_steps_98 : decode cL_steps 98 = .ok (.iload 4, 2) := by decide +kernel
theorem dL_steps_100 : decode cL_steps 100 = .ok (.if_icmp .ne 7, 3) := by decide +kernel
theorem dL_steps_103 : decode cL_steps 103 = .ok (.iconst 1, 1) := by decide +kernel
theorem dL_steps_104 : decode cL_steps 104 = .ok (.goto 4, 3) := by decide +kernel
theorem dL_steps_107 : decode cL_steps 107 = .ok (.iconst 0, 1) := by decide +kernel
theorem dL_steps_108 : decode cL_steps 108 = .ok (.ireturn, 1) := by decide +kernel
theorem dL_steps_109 : decode cL_steps 109 = .ok (.iload 6, 2) := by decide +kernel
theorem dL_steps_111 : decode cL_steps 111 = .ok (.ifCond .lt 50, 3) := by decide +kernel
theorem dL_steps_114 : decode cL_steps 114 = .ok (.aload_n 0, 1) := by decide +kernel
theorem dL_steps_115 : decode cL_steps 115 = .ok (.invokevirtual 82, 3) := by decide +kernel
theorem dL_steps_118 : decode cL_steps 118 = .ok (.iload 4, 2) := by decide +kernel
theorem dL_steps_120 : decode cL_steps 120 = .ok (.iload 6, 2) := by decide +kernel
theorem dL_steps_122 : decode cL_steps 122 = .ok (.iadd, 1) := by decide +kernel
theorem dL_steps_123 : decode cL_steps 123 = .ok (.if_icmp .ne 38, 3) := by decide +kernel
theorem dL_steps_126 : decode cL_steps 126 = .ok (.aload_n 0, 1) := by decide +kernel
theorem dL_steps_127 : decode cL_steps 127 = .ok (.iload_n 1, 1) := by decide +kernel
theorem dL_steps_128 : decode cL_steps 128 = .ok (.invokevirtual 106, 3) := by decide +kernel
theorem dL_steps_131 : decode cL_steps 131 = .ok (.iload_n 3, 1) := by decide +kernel
theorem dL_steps_132 : decode cL_steps 132 = .ok (.iconst 1, 1) := by decide +kernel
theorem dL_steps_133 : decode cL_steps 133 = .ok (.iadd, 1) := by decide +kernel
theorem dL_steps_134 : decode cL_steps 134 = .ok (.if_icmp .ne 27, 3) := by decide +kernel
theorem dL_steps_137 : decode cL_steps 137 = .ok (.aload_n 0, 1) := by decide +kernel
theorem dL_steps_138 : decode cL_steps 138 = .ok (.invokevirtual 103, 3) := by decide +kernel
theorem dL_steps_141 : decode cL_steps 141 = .ok (.iload 5, 2) := by decide +kernel
theorem dL_steps_143 : decode cL_steps 143 = .ok (.if_icmp .lt 18, 3) := by decide +kernel
theorem dL_steps_146 : decode cL_steps 146 = .ok (.aload_n 0, 1) := by decide +kernel
theorem dL_steps_147 : decode cL_steps 147 = .ok (.invokevirtual 76, 3) := by decide +kernel
theorem dL_steps_150 : decode cL_steps 150 = .ok (.aload_n 2, 1) := by decide +kernel
theorem dL_steps_151 : decode cL_steps 151 = .ok (.bipush 8, 2) := by decide +kernel
theorem dL_steps_153 : decode cL_steps 153 = .ok (.iaload, 1) := by decide +kernel
theorem dL_steps_154 : decode cL_steps 154 = .ok (.if_icmp .lt 7, 3) := by decide +kernel
theorem dL_steps_157 : decode cL_steps 157 = .ok (.iconst 1, 1) := by decide +kernel
theorem dL_steps_158 : decode cL_steps 158 = .ok (.goto 4, 3) := by decide +kernel
theorem dL_steps_161 : decode cL_steps 161 = .ok (.iconst 0, 1) := by decide +kernel
theorem dL_steps_162 : decode cL_steps 162 = .ok (.istore 7, 2) := by decide +kernel
theorem dL_steps_164 : decode cL_steps 164 = .ok (.aload_n 2, 1) := by decide +kernel
theorem dL_steps_165 : decode cL_steps 165 = .ok (.bipush 8, 2) := by decide +kernel
theorem dL_steps_167 : decode cL_steps 167 = .ok (.aload_n 0, 1) := by decide +kernel
theorem dL_steps_168 : decode cL_steps 168 = .ok (.invokevirtual 76, 3) := by decide +kernel
theorem dL_steps_171 : decode cL_steps 171 = .ok (.iastore, 1) := by decide +kernel
theorem dL_steps_172 : decode cL_steps 172 = .ok (.iload 7, 2) := by decide +kernel
theorem dL_steps_174 : decode cL_steps 174 = .ok (.ireturn, 1) := by decide +kernel
theorem dL_snaps_0 : decode cL_snaps 0 = .ok (.iload_n 1, 1) := by decide +kernel
theorem dL_snaps_1 : decode cL_snaps 1 = .ok (.iconst 3, 1) := by decide +kernel
theorem dL_snaps_2 : decode cL_snaps 2 = .ok (.irem, 1) := by decide +kernel
theorem dL_snaps_3 : decode cL_snaps 3 = .ok (.ifCond .ne 13, 3) := by decide +kernel
theorem dL_snaps_6 : decode cL_snaps 6 = .ok (.aload_n 2, 1) := by decide +kernel
theorem dL_snaps_7 : decode cL_snaps 7 = .ok (.iconst 3, 1) := by decide +kernel
theorem dL_snaps_8 : decode cL_snaps 8 = .ok (.iaload, 1) := by decide +kernel
theorem dL_snaps_9 : decode cL_snaps 9 = .ok (.bipush 30, 2) := by decide +kernel
theorem dL_snaps_11 : decode cL_snaps 11 = .ok (.if_icmp .ne 5, 3) := by decide +kernel
theorem dL_snaps_14 : decode cL_snaps 14 = .ok (.iconst 1, 1) := by decide +kernel
theorem dL_snaps_15 : decode cL_snaps 15 = .ok (.ireturn, 1) := by decide +kernel
theorem dL_snaps_16 : decode cL_snaps 16 = .ok (.iload_n 1, 1) := by decide +kernel
theorem dL_snaps_17 : decode cL_snaps 17 = .ok (.iconst 3, 1) := by decide +kernel
theorem dL_snaps_18 : decode cL_snaps 18 = .ok (.irem, 1) := by decide +kernel
theorem dL_snaps_19 : decode cL_snaps 19 = .ok (.ifCond .ne 86, 3) := by decide +kernel
theorem dL_snaps_22 : decode cL_snaps 22 = .ok (.aload_n 0, 1) := by decide +kernel
theorem dL_snaps_23 : decode cL_snaps 23 = .ok (.iconst 1, 1) := by decide +kernel
theorem dL_snaps_24 : decode cL_snaps 24 = .ok (.iconst 0, 1) := by decide +kernel
theorem dL_snaps_25 : decode cL_snaps 25 = .ok (.iconst 0, 1) := by decide +kernel
theorem dL_snaps_26 : decode cL_snaps 26 = .ok (.invokestatic 72, 3) := by decide +kernel
theorem dL_snaps_29 : decode cL_snaps 29 = .ok (.istore_n 3, 1) := by decide +kernel
theorem dL_snaps_30 : decode cL_snaps 30 = .ok (.aload_n 2, 1) := by decide +kernel
theorem dL_snaps_31 : decode cL_snaps 31 = .ok (.bipush 6, 2) := by decide +kernel
theorem dL_snaps_33 : decode cL_snaps 33 = .ok (.iaload, 1) := by decide +kernel
theorem dL_snaps_34 : decode cL_snaps 34 = .ok (.ifCond .eq 13, 3) := by decide +kernel
theorem dL_snaps_37 : decode cL_snaps 37 = .ok (.aload_n 2, 1) := by decide +kernel
theorem dL_snaps_38 : decode cL_snaps 38 = .ok (.iconst 5, 1) := by decide +kernel
theorem dL_snaps_39 : decode cL_snaps 39 = .ok (.iaload, 1) := by decide +kernel
theorem dL_snaps_40 : decode cL_snaps 40 = .ok (.invokestatic 112, 3) := by decide +kernel
theorem dL_snaps_43 : decode cL_snaps 43 = .ok (.iconst 5, 1) := by decide +kernel
theorem dL_snaps_44 : decode cL_snaps 44 = .ok (.if_icmp .ne 15, 3) := by decide +kernel
theorem dL_snaps_47 : decode cL_snaps 47 = .ok (.iload_n 3, 1) := by decide +kernel
theorem dL_snaps_48 : decode cL_snaps 48 = .ok (.ldc 47, 2) := by decide +kernel
theorem dL_snaps_50 : decode cL_snaps 50 = .ok (.if_icmp .ne 7, 3) := by decide +kernel
theorem dL_snaps_53 : decode cL_snaps 53 = .ok (.iconst 1, 1) := by decide +kernel
theorem dL_snaps_54 : decode cL_snaps 54 = .ok (.goto 4, 3) := by decide +kernel
theorem dL_snaps_57 : decode cL_snaps 57 = .ok (.iconst 0, 1) := by decide +kernel
theorem dL_snaps_58 : decode cL_snaps 58 = .ok (.ireturn, 1) := by decide +kernel
theorem dL_snaps_59 : decode cL_snaps 59 = .ok (.aload_n 2, 1) := by decide +kernel
theorem dL_snaps_60 : decode cL_snaps 60 = .ok (.iconst 5, 1) := by decide +kernel
theorem dL_snaps_61 : decode cL_snaps 61 = .ok (.dup2, 1) := by decide +kernel
theorem dL_snaps_62 : decode cL_snaps 62 = .ok (.iaload, 1) := by decide +kernel
theorem dL_snaps_63 : decode cL_snaps 63 = .ok (.iconst 1, 1) := by decide +kernel
theorem dL_snaps_64 : decode cL_snaps 64 = .ok (.aload_n 2, 1) := by decide +kernel
theorem dL_snaps_65 : decode cL_snaps 65 = .ok (.iconst 3, 1) := by decide +kernel
theorem dL_snaps_66 : decode cL_snaps 66 = .ok (.iaload, 1) := by decide +kernel
theorem dL_snaps_67 : decode cL_snaps 67 = .ok (.ishl, 1) := by decide +kernel
theorem dL_snaps_68 : decode cL_snaps 68 = .ok (.ior, 1) := by decide +kernel
theorem dL_snaps_69 : decode cL_snaps 69 = .ok (.iastore, 1) := by decide +kernel
theorem dL_snaps_70 : decode cL_snaps 70 = .ok (.aload_n 2, 1) := by decide +kernel
theorem dL_snaps_71 : decode cL_snaps 71 = .ok (.iconst 3, 1) := by decide +kernel
theorem dL_snaps_72 : decode cL_snaps 72 = .ok (.dup2, 1) := by decide +kernel
theorem dL_snaps_73 : decode cL_snaps 73 = .ok (.iaload, 1) := by decide +kernel
theorem dL_snaps_74 : decode cL_snaps 74 = .ok (.iconst 1, 1) := by decide +kernel
theorem dL_snaps_75 : decode cL_snaps 75 = .ok (.iadd, 1) := by decide +kernel
theorem dL_snaps_76 : decode cL_snaps 76 = .ok (.iastore, 1) := by decide +kernel
theorem dL_snaps_77 : decode cL_snaps 77 = .ok (.iload_n 3, 1) := by decide +kernel
theorem dL_snaps_78 : decode cL_snaps 78 = .ok (.aload_n 2, 1) := by decide +kernel
theorem dL_snaps_79 : decode cL_snaps 79 = .ok (.iconst 3, 1) := by decide +kernel
theorem dL_snaps_80 : decode cL_snaps 80 = .ok (.iaload, 1) := by decide +kernel
theorem dL_snaps_81 : decode cL_snaps 81 = .ok (.iconst 1, 1) := by decide +kernel
theorem dL_snaps_82 : decode cL_snaps 82 = .ok (.isub, 1) := by decide +kernel
theorem dL_snaps_83 : decode cL_snaps 83 = .ok (.if_icmp .ne 20, 3) := by decide +kernel
theorem dL_snaps_86 : decode cL_snaps 86 = .ok (.aload_n 0, 1) := by decide +kernel
theorem dL_snaps_87 : decode cL_snaps 87 = .ok (.invokevirtual 109, 3) := by decide +kernel
theorem dL_snaps_90 : decode cL_snaps 90 = .ok (.aload_n 2, 1) := by decide +kernel
theorem dL_snaps_91 : decode cL_snaps 91 = .ok (.iconst 5, 1) := by decide +kernel
theorem dL_snaps_92 : decode cL_snaps 92 = .ok (.iaload, 1) := by decide +kernel
theorem dL_snaps_93 : decode cL_snaps 93 = .ok (.invokestatic 112, 3) := by decide +kernel
theorem dL_snaps_96 : decode cL_snaps 96 = .ok (.if_icmp .ne 7, 3) := by decide +kernel
theorem dL_snaps_99 : decode cL_snaps 99 = .ok (.iconst 1, 1) := by decide +kernel
theorem dL_snaps_100 : decode cL_snaps 100 = .ok (.goto 4, 3) := by decide +kernel
theorem dL_snaps_103 : decode cL_snaps 103 = .ok (.iconst 0, 1) := by decide +kernel
theorem dL_snaps_104 : decode cL_snaps 104 = .ok (.ireturn, 1) := by decide +kernel
theorem dL_snaps_105 : decode cL_snaps 105 = .ok (.iload_n 1, 1) := by decide +kernel
theorem dL_snaps_106 : decode cL_snaps 106 = .ok (.iconst 3, 1) := by decide +kernel
theorem dL_snaps_107 : decode cL_snaps 107 = .ok (.irem, 1) := by decide +kernel
theorem dL_snaps_108 : decode cL_snaps 108 = .ok (.iconst 1, 1) := by decide +kernel
theorem dL_snaps_109 : decode cL_snaps 109 = .ok (.if_icmp .ne 125, 3) := by decide +kernel
theorem dL_snaps_112 : decode cL_snaps 112 = .ok (.aload_n 2, 1) := by decide +kernel
theorem dL_snaps_113 : decode cL_snaps 113 = .ok (.iconst 3, 1) := by decide +kernel
theorem dL_snaps_114 : decode cL_snaps 114 = .ok (.iaload, 1) := by decide +kernel
theorem dL_snaps_115 : decode cL_snaps 115 = .ok (.ifCond .ne 7, 3) := by decide +kernel
theorem dL_snaps_118 : decode cL_snaps 118 = .ok (.iconst 0, 1) := by decide +kernel
theorem dL_snaps_119 : decode cL_snaps 119 = .ok (.goto 10, 3) := by decide +kernel
theorem dL_snaps_122 : decode cL_snaps 122 = .ok (.iload_n 1, 1) := by decide +kernel
theorem dL_snaps_123 : decode cL_snaps 123 = .ok (.iconst 3, 1) := by decide +kernel
theorem dL_snaps_124 : decode cL_snaps 124 = .ok (.idiv, 1) := by decide +kernel
theorem dL_snaps_125 : decode cL_snaps 125 = .ok (.aload_n 2, 1) := by decide +kernel
theorem dL_snaps_126 : decode cL_snaps 126 = .ok (.iconst 3, 1) := by decide +kernel
theorem dL_snaps_127 : decode cL_snaps 127 = .ok (.iaload, 1) := by decide +kernel
theorem dL_snaps_128 : decode cL_snaps 128 = .ok (.irem, 1) := by decide +kernel
theorem dL_snaps_129 : decode cL_snaps 129 = .ok (.istore_n 3, 1) := by decide +kernel
theorem dL_snaps_130 : decode cL_snaps 130 = .ok (.aload_n 2, 1) := by decide +kernel
theorem dL_snaps_131 : decode cL_snaps 131 = .ok (.iconst 5, 1) := by decide +kernel
theorem dL_snaps_132 : decode cL_snaps 132 = .ok (.iaload, 1) := by decide +kernel
theorem dL_snaps_133 : decode cL_snaps 133 = .ok (.iload_n 3, 1) := by decide +kernel
theorem dL_snaps_134 : decode cL_snaps 134 = .ok (.ishr, 1) := by decide +kernel
theorem dL_snaps_135 : decode cL_snaps 135 = .ok (.iconst 1, 1) := by decide +kernel
theorem dL_snaps_136 : decode cL_snaps 136 = .ok (.iand, 1) := by decide +kernel
theorem dL_snaps_137 : decode cL_snaps 137 = .ok (.iconst 1, 1) := by decide +kernel
theorem dL_snaps_138 : decode cL_snaps 138 = .ok (.if_icmp .ne 7, 3) := by decide +kernel
theorem dL_snaps_141 : decode cL_snaps 141 = .ok (.iconst 1, 1) := by decide +kernel
theorem dL_snaps_142 : decode cL_snaps 142 = .ok (.goto 4, 3) := by decide +kernel
theorem dL_snaps_145 : decode cL_snaps 145 = .ok (.iconst 0, 1) := by decide +kernel
theorem dL_snaps_146 : decode cL_snaps 146 = .ok (.istore 4, 2) := by decide +kernel
theorem dL_snaps_148 : decode cL_snaps 148 = .ok (.aload_n 0, 1) := by decide +kernel
theorem dL_snaps_149 : decode cL_snaps 149 = .ok (.iconst 2, 1) := by decide +kernel
theorem dL_snaps_150 : decode cL_snaps 150 = .ok (.iload_n 3, 1) := by decide +kernel
theorem dL_snaps_151 : decode cL_snaps 151 = .ok (.iconst 0, 1) := by decide +kernel
theorem dL_snaps_152 : decode cL_snaps 152 = .ok (.invokestatic 72, 3) := by decide +kernel
theorem dL_snaps_155 : decode cL_snaps 155 = .ok (.istore 5, 2) := by decide +kernel
theorem dL_snaps_157 : decode cL_snaps 157 = .ok (.iload 4, 2) := by decide +kernel
theorem dL_snaps_159 : decode cL_snaps 159 = .ok (.ifCond .ne 16, 3) := by decide +kernel
theorem dL_snaps_162 : decode cL_snaps 162 = .ok (.iload 5, 2) := by decide +kernel
theorem dL_snaps_164 : decode cL_snaps 164 = .ok (.ldc 44, 2) := by decide +kernel
theorem dL_snaps_166 : decode cL_snaps 166 = .ok (.if_icmp .ne 7, 3) := by decide +kernel
theorem dL_snaps_169 : decode cL_snaps 169 = .ok (.iconst 1, 1) := by decide +kernel
theorem dL_snaps_170 : decode cL_snaps 170 = .ok (.goto 4, 3) := by decide +kernel
theorem dL_snaps_173 : decode cL_snaps 173 = .ok (.iconst 0, 1) := by decide +kernel
theorem dL_snaps_174 : decode cL_snaps 174 = .ok (.ireturn, 1) := by decide +kernel
theorem dL_snaps_175 : decode cL_snaps 175 = .ok (.aload_n 2, 1) := by decide +kernel
theorem dL_snaps_176 : decode cL_snaps 176 = .ok (.iconst 5, 1) := by decide +kernel
theorem dL_snaps_177 : decode cL_snaps 177 = .ok (.dup2, 1) := by decide +kernel
theorem dL_snaps_178 : decode cL_snaps 178 = .ok (.iaload, 1) := by decide +kernel
theorem dL_snaps_179 : decode cL_snaps 179 = .ok (.iconst 1, 1) := by decide +kernel
theorem dL_snaps_180 : decode cL_snaps 180 = .ok (.iload_n 3, 1) := by decide +kernel
theorem dL_snaps_181 : decode cL_snaps 181 = .ok (.ishl, 1) := by decide +kernel
theorem dL_snaps_182 : decode cL_snaps 182 = .ok (.iconst 1, 1) := by decide +kernel
theorem dL_snaps_183 : decode cL_snaps 183 = .ok (.isub, 1) := by decide +kernel
theorem dL_snaps_184 : decode cL_snaps 184 = .ok (.iconst 1, 1) := by decide +kernel
theorem dL_snaps_185 : decode cL_snaps 185 = .ok (.iload_n 3, 1) := by decide +kernel
theorem dL_snaps_186 : decode cL_snaps 186 = .ok (.ishl, 1) := by decide +kernel
theorem dL_snaps_187 : decode cL_snaps 187 = .ok (.ior, 1) := by decide +kernel
theorem dL_snaps_188 : decode cL_snaps 188 = .ok (.iconst (-1), 1) := by decide +kernel
theorem dL_snaps_189 : decode cL_snaps 189 = .ok (.ixor, 1) := by decide +kernel
theorem dL_snaps_190 : decode cL_snaps 190 = .ok (.iand, 1) := by decide +kernel
theorem dL_snaps_191 : decode cL_snaps 191 = .ok (.iastore, 1) := by decide +kernel
theorem dL_snaps_192 : decode cL_snaps 192 = .ok (.aload_n 2, 1) := by decide +kernel
theorem dL_snaps_193 : decode cL_snaps 193 = .ok (.iconst 4, 1) := by decide +kernel
theorem dL_snaps_194 : decode cL_snaps 194 = .ok (.dup2, 1) := by decide +kernel
theorem dL_snaps_195 : decode cL_snaps 195 = .ok (.iaload, 1) := by decide +kernel
theorem dL_snaps_196 : decode cL_snaps 196 = .ok (.iload 5, 2) := by decide +kernel
theorem dL_snaps_198 : decode cL_snaps 198 = .ok (.iadd, 1) := by decide +kernel
theorem dL_snaps_199 : decode cL_snaps 199 = .ok (.iastore, 1) := by decide +kernel
theorem dL_snaps_200 : decode cL_snaps 200 = .ok (.iload 5, 2) := by decide +kernel
theorem dL_snaps_202 : decode cL_snaps 202 = .ok (.ifCond .lt 30, 3) := by decide +kernel
theorem dL_snaps_205 : decode cL_snaps 205 = .ok (.aload_n 0, 1) := by decide +kernel
theorem dL_snaps_206 : decode cL_snaps 206 = .ok (.invokevirtual 85, 3) := by decide +kernel
theorem dL_snaps_209 : decode cL_snaps 209 = .ok (.aload_n 2, 1) := by decide +kernel
theorem dL_snaps_210 : decode cL_snaps 210 = .ok (.iconst 4, 1) := by decide +kernel
theorem dL_snaps_211 : decode cL_snaps 211 = .ok (.iaload, 1) := by decide +kernel
theorem dL_snaps_212 : decode cL_snaps 212 = .ok (.if_icmp .ne 20, 3) := by decide +kernel
theorem dL_snaps_215 : decode cL_snaps 215 = .ok (.aload_n 0, 1) := by decide +kernel
theorem dL_snaps_216 : decode cL_snaps 216 = .ok (.invokevirtual 109, 3) := by decide +kernel
theorem dL_snaps_219 : decode cL_snaps 219 = .ok (.aload_n 2, 1) := by decide +kernel
theorem dL_snaps_220 : decode cL_snaps 220 = .ok (.iconst 5, 1) := by decide +kernel
theorem dL_snaps_221 : decode cL_snaps 221 = .ok (.iaload, 1) := by decide +kernel
theorem dL_snaps_222 : decode cL_snaps 222 = .ok (.invokestatic 112, 3) := by decide +kernel
theorem dL_snaps_225 : decode cL_snaps 225 = .ok (.if_icmp .ne 7, 3) := by decide +kernel
theorem dL_snaps_228 : decode cL_snaps 228 = .ok (.iconst 1, 1) := by decide +kernel
theorem dL_snaps_229 : decode cL_snaps 229 = .ok (.goto 4, 3) := by decide +kernel
theorem dL_snaps_232 : decode cL_snaps 232 = .ok (.iconst 0, 1) := by decide +kernel
theorem dL_snaps_233 : decode cL_snaps 233 = .ok (.ireturn, 1) := by decide +kernel
theorem dL_snaps_234 : decode cL_snaps 234 = .ok (.aload_n 0, 1) := by decide +kernel
theorem dL_snaps_235 : decode cL_snaps 235 = .ok (.invokevirtual 82, 3) := by decide +kernel
theorem dL_snaps_238 : decode cL_snaps 238 = .ok (.istore_n 3, 1) := by decide +kernel
theorem dL_snaps_239 : decode cL_snaps 239 = .ok (.aload_n 0, 1) := by decide +kernel
theorem dL_snaps_240 : decode cL_snaps 240 = .ok (.iconst 3, 1) := by decide +kernel
theorem dL_snaps_241 : decode cL_snaps 241 = .ok (.iconst 0, 1) := by decide +kernel
theorem dL_snaps_242 : decode cL_snaps 242 = .ok (.iconst 0, 1) := by decide +kernel
theorem dL_snaps_243 : decode cL_snaps 243 = .ok (.invokestatic 72, 3) := by decide +kernel
theorem dL_snaps_246 : decode cL_snaps 246 = .ok (.istore 4, 2) := by decide +kernel
theorem dL_snaps_248 : decode cL_snaps 248 = .ok (.aload_n 2, 1) := by decide +kernel
theorem dL_snaps_249 : decode cL_snaps 249 = .ok (.bipush 6, 2) := by decide +kernel
theorem dL_snaps_251 : decode cL_snaps 251 = .ok (.iaload, 1) := by decide +kernel
theorem dL_snaps_252 : decode cL_snaps 252 = .ok (.ifCond .ne 16, 3) := by decide +kernel
theorem dL_snaps_255 : decode cL_snaps 255 = .ok (.iload 4, 2) := by decide +kernel
theorem dL_snaps_257 : decode cL_snaps 257 = .ok (.ldc 47, 2) := by decide +kernel
theorem dL_snaps_259 : decode cL_snaps 259 = .ok (.if_icmp .ne 7, 3) := by decide +kernel
theorem dL_snaps_262 : decode cL_snaps 262 = .ok (.iconst 1, 1) := by decide +kernel
theorem dL_snaps_263 : decode cL_snaps 263 = .ok (.goto 4, 3) := by decide +kernel
theorem dL_snaps_266 : decode cL_snaps 266 = .ok (.iconst 0, 1) := by decide +kernel
theorem dL_snaps_267 : decode cL_snaps 267 = .ok (.ireturn, 1) := by decide +kernel
theorem dL_snaps_268 : decode cL_snaps 268 = .ok (.aload_n 2, 1) := by decide +kernel
theorem dL_snaps_269 : decode cL_snaps 269 = .ok (.iconst 5, 1) := by decide +kernel
theorem dL_snaps_270 : decode cL_snaps 270 = .ok (.iconst 0, 1) := by decide +kernel
theorem dL_snaps_271 : decode cL_snaps 271 = .ok (.iastore, 1) := by decide +kernel
theorem dL_snaps_272 : decode cL_snaps 272 = .ok (.aload_n 2, 1) := by decide +kernel
theorem dL_snaps_273 : decode cL_snaps 273 = .ok (.bipush 8, 2) := by decide +kernel
theorem dL_snaps_275 : decode cL_snaps 275 = .ok (.aload_n 0, 1) := by decide +kernel
theorem dL_snaps_276 : decode cL_snaps 276 = .ok (.invokevirtual 76, 3) := by decide +kernel
theorem dL_snaps_279 : decode cL_snaps 279 = .ok (.iastore, 1) := by decide +kernel
theorem dL_snaps_280 : decode cL_snaps 280 = .ok (.iload 4, 2) := by decide +kernel
theorem dL_snaps_282 : decode cL_snaps 282 = .ok (.iload_n 3, 1) := by decide +kernel
theorem dL_snaps_283 : decode cL_snaps 283 = .ok (.aload_n 2, 1) := by decide +kernel
theorem dL_snaps_284 : decode cL_snaps 284 = .ok (.iconst 4, 1) := by decide +kernel
theorem dL_snaps_285 : decode cL_snaps 285 = .ok (.iaload, 1) := by decide +kernel
theorem dL_snaps_286 : decode cL_snaps 286 = .ok (.isub, 1) := by decide +kernel
theorem dL_snaps_287 : decode cL_snaps 287 = .ok (.if_icmp .ne 24, 3) := by decide +kernel
theorem dL_snaps_290 : decode cL_snaps 290 = .ok (.aload_n 0, 1) := by decide +kernel
theorem dL_snaps_291 : decode cL_snaps 291 = .ok (.invokevirtual 82, 3) := by decide +kernel
theorem dL_snaps_294 : decode cL_snaps 294 = .ok (.aload_n 2, 1) := by decide +kernel
theorem dL_snaps_295 : decode cL_snaps 295 = .ok (.iconst 4, 1) := by decide +kernel
theorem dL_snaps_296 : decode cL_snaps 296 = .ok (.iaload, 1) := by decide +kernel
theorem dL_snaps_297 : decode cL_snaps 297 = .ok (.if_icmp .ne 14, 3) := by decide +kernel
theorem dL_snaps_300 : decode cL_snaps 300 = .ok (.aload_n 0, 1) := by decide +kernel
theorem dL_snaps_301 : decode cL_snaps 301 = .ok (.invokevirtual 109, 3) := by decide +kernel
theorem dL_snaps_304 : decode cL_snaps 304 = .ok (.ifCond .ne 7, 3) := by decide +kernel
theorem dL_snaps_307 : decode cL_snaps 307 = .ok (.iconst 1, 1) := by decide +kernel
theorem dL_snaps_308 : decode cL_snaps 308 = .ok (.goto 4, 3) := by decide +kernel
theorem dL_snaps_311 : decode cL_snaps 311 = .ok (.iconst 0, 1) := by decide +kernel
theorem dL_snaps_312 : decode cL_snaps 312 = .ok (.ireturn, 1) := by decide +kernel
theorem dL_loom_0 : decode cL_loom 0 = .ok (.new 11, 3) := by decide +kernel
theorem dL_loom_3 : decode cL_loom 3 = .ok (.dup, 1) := by decide +kernel
theorem dL_loom_4 : decode cL_loom 4 = .ok (.invokespecial 115, 3) := by decide +kernel
theorem dL_loom_7 : decode cL_loom 7 = .ok (.astore_n 2, 1) := by decide +kernel
theorem dL_loom_8 : decode cL_loom 8 = .ok (.bipush 7, 2) := by decide +kernel
theorem dL_loom_10 : decode cL_loom 10 = .ok (.newarray .int, 2) := by decide +kernel
theorem dL_loom_12 : decode cL_loom 12 = .ok (.astore_n 3, 1) := by decide +kernel
theorem dL_loom_13 : decode cL_loom 13 = .ok (.bipush 9, 2) := by decide +kernel
theorem dL_loom_15 : decode cL_loom 15 = .ok (.newarray .int, 2) := by decide +kernel
theorem dL_loom_17 : decode cL_loom 17 = .ok (.astore 4, 2) := by decide +kernel
theorem dL_loom_19 : decode cL_loom 19 = .ok (.aload 4, 2) := by decide +kernel
theorem dL_loom_21 : decode cL_loom 21 = .ok (.bipush 7, 2) := by decide +kernel
theorem dL_loom_23 : decode cL_loom 23 = .ok (.iconst 1, 1) := by decide +kernel
theorem dL_loom_24 : decode cL_loom 24 = .ok (.iastore, 1) := by decide +kernel
theorem dL_loom_25 : decode cL_loom 25 = .ok (.aload 4, 2) := by decide +kernel
theorem dL_loom_27 : decode cL_loom 27 = .ok (.bipush 8, 2) := by decide +kernel
theorem dL_loom_29 : decode cL_loom 29 = .ok (.iconst (-1), 1) := by decide +kernel
theorem dL_loom_30 : decode cL_loom 30 = .ok (.iastore, 1) := by decide +kernel
theorem dL_loom_31 : decode cL_loom 31 = .ok (.iconst 1, 1) := by decide +kernel
theorem dL_loom_32 : decode cL_loom 32 = .ok (.istore 5, 2) := by decide +kernel
theorem dL_loom_34 : decode cL_loom 34 = .ok (.iconst 0, 1) := by decide +kernel
theorem dL_loom_35 : decode cL_loom 35 = .ok (.istore 6, 2) := by decide +kernel
theorem dL_loom_37 : decode cL_loom 37 = .ok (.iload 6, 2) := by decide +kernel
theorem dL_loom_39 : decode cL_loom 39 = .ok (.bipush 110, 2) := by decide +kernel
theorem dL_loom_41 : decode cL_loom 41 = .ok (.if_icmp .ge 548, 3) := by decide +kernel
theorem dL_loom_44 : decode cL_loom 44 = .ok (.iload 5, 2) := by decide +kernel
theorem dL_loom_46 : decode cL_loom 46 = .ok (.ifCond .eq 543, 3) := by decide +kernel
theorem dL_loom_49 : decode cL_loom 49 = .ok (.aload_n 0, 1) := by decide +kernel
theorem dL_loom_50 : decode cL_loom 50 = .ok (.iload_n 1, 1) := by decide +kernel
theorem dL_loom_51 : decode cL_loom 51 = .ok (.iconst 3, 1) := by decide +kernel
theorem dL_loom_52 : decode cL_loom 52 = .ok (.iload 6, 2) := by decide +kernel
theorem dL_loom_54 : decode cL_loom 54 = .ok (.imul, 1) := by decide +kernel
theorem dL_loom_55 : decode cL_loom 55 = .ok (.iadd, 1) := by decide +kernel
theorem dL_loom_56 : decode cL_loom 56 = .ok (.iconst 1, 1) := by decide +kernel
theorem dL_loom_57 : decode cL_loom 57 = .ok (.iadd, 1) := by decide +kernel
theorem dL_loom_58 : decode cL_loom 58 = .ok (.ldc 116, 2) := by decide +kernel
theorem dL_loom_60 : decode cL_loom 60 = .ok (.invokestatic 117, 3) := by decide +kernel
theorem dL_loom_63 : decode cL_loom 63 = .ok (.istore 7, 2) := by decide +kernel
theorem dL_loom_65 : decode cL_loom 65 = .ok (.aload_n 0, 1) := by decide +kernel
theorem dL_loom_66 : decode cL_loom 66 = .ok (.iload_n 1, 1) := by decide +kernel
theorem dL_loom_67 : decode cL_loom 67 = .ok (.iconst 3, 1) := by decide +kernel
theorem dL_loom_68 : decode cL_loom 68 = .ok (.iload 6, 2) := by decide +kernel
theorem dL_loom_70 : decode cL_loom 70 = .ok (.imul, 1) := by decide +kernel
theorem dL_loom_71 : decode cL_loom 71 = .ok (.iadd, 1) := by decide +kernel
theorem dL_loom_72 : decode cL_loom 72 = .ok (.iconst 2, 1) := by decide +kernel
theorem dL_loom_73 : decode cL_loom 73 = .ok (.iadd, 1) := by decide +kernel
theorem dL_loom_74 : decode cL_loom 74 = .ok (.ldc 116, 2) := by decide +kernel
theorem dL_loom_76 : decode cL_loom 76 = .ok (.invokestatic 117, 3) := by decide +kernel
theorem dL_loom_79 : decode cL_loom 79 = .ok (.istore 8, 2) := by decide +kernel
theorem dL_loom_81 : decode cL_loom 81 = .ok (.iload 6, 2) := by decide +kernel
theorem dL_loom_83 : decode cL_loom 83 = .ok (.ifCond .ne 7, 3) := by decide +kernel
theorem dL_loom_86 : decode cL_loom 86 = .ok (.iconst 0, 1) := by decide +kernel
theorem dL_loom_87 : decode cL_loom 87 = .ok (.goto 26, 3) := by decide +kernel
theorem dL_loom_90 : decode cL_loom 90 = .ok (.iload 6, 2) := by decide +kernel
theorem dL_loom_92 : decode cL_loom 92 = .ok (.bipush 7, 2) := by decide +kernel
theorem dL_loom_94 : decode cL_loom 94 = .ok (.if_icmp .ge 7, 3) := by decide +kernel
theorem dL_loom_97 : decode cL_loom 97 = .ok (.iconst 2, 1) := by decide +kernel
theorem dL_loom_98 : decode cL_loom 98 = .ok (.goto 15, 3) := by decide +kernel
theorem dL_loom_101 : decode cL_loom 101 = .ok (.aload_n 0, 1) := by decide +kernel
theorem dL_loom_102 : decode cL_loom 102 = .ok (.iload_n 1, 1) := by decide +kernel
theorem dL_loom_103 : decode cL_loom 103 = .ok (.iconst 3, 1) := by decide +kernel
theorem dL_loom_104 : decode cL_loom 104 = .ok (.iload 6, 2) := by decide +kernel
theorem dL_loom_106 : decode cL_loom 106 = .ok (.imul, 1) := by decide +kernel
theorem dL_loom_107 : decode cL_loom 107 = .ok (.iadd, 1) := by decide +kernel
theorem dL_loom_108 : decode cL_loom 108 = .ok (.bipush 22, 2) := by decide +kernel
theorem dL_loom_110 : decode cL_loom 110 = .ok (.invokestatic 117, 3) := by decide +kernel
theorem dL_loom_113 : decode cL_loom 113 = .ok (.istore 9, 2) := by decide +kernel
theorem dL_loom_115 : decode cL_loom 115 = .ok (.aload_n 2, 1) := by decide +kernel
theorem dL_loom_116 : decode cL_loom 116 = .ok (.invokevirtual 82, 3) := by decide +kernel
theorem dL_loom_119 : decode cL_loom 119 = .ok (.istore 10, 2) := by decide +kernel
theorem dL_loom_121 : decode cL_loom 121 = .ok (.iload 9, 2) := by decide +kernel
theorem dL_loom_123 : decode cL_loom 123 = .ok (.iconst 2, 1) := by decide +kernel
theorem dL_loom_124 : decode cL_loom 124 = .ok (.if_icmp .ge 41, 3) := by decide +kernel
theorem dL_loom_127 : decode cL_loom 127 = .ok (.iload 6, 2) := by decide +kernel
theorem dL_loom_129 : decode cL_loom 129 = .ok (.ifCond .le 12, 3) := by decide +kernel
theorem dL_loom_132 : decode cL_loom 132 = .ok (.iload 7, 2) := by decide +kernel
theorem dL_loom_134 : decode cL_loom 134 = .ok (.bipush 7, 2) := by decide +kernel
theorem dL_loom_136 : decode cL_loom 136 = .ok (.irem, 1) := by decide +kernel
theorem dL_loom_137 : decode cL_loom 137 = .ok (.iconst 2, 1) := by decide +kernel
theorem dL_loom_138 : decode cL_loom 138 = .ok (.if_icmp .gt 17, 3) := by decide +kernel
theorem dL_loom_141 : decode cL_loom 141 = .ok (.aload_n 2, 1) := by decide +kernel
theorem dL_loom_142 : decode cL_loom 142 = .ok (.iload 7, 2) := by decide +kernel
theorem dL_loom_144 : decode cL_loom 144 = .ok (.iload 8, 2) := by decide +kernel
theorem dL_loom_146 : decode cL_loom 146 = .ok (.aload_n 3, 1) := by decide +kernel
theorem dL_loom_147 : decode cL_loom 147 = .ok (.aload 4, 2) := by decide +kernel
theorem dL_loom_149 : decode cL_loom 149 = .ok (.invokestatic 121, 3) := by decide +kernel
theorem dL_loom_152 : decode cL_loom 152 = .ok (.ifCond .eq 7, 3) := by decide +kernel
theorem dL_loom_155 : decode cL_loom 155 = .ok (.iconst 1, 1) := by decide +kernel
theorem dL_loom_156 : decode cL_loom 156 = .ok (.goto 4, 3) := by decide +kernel
theorem dL_loom_159 : decode cL_loom 159 = .ok (.iconst 0, 1) := by decide +kernel
theorem dL_loom_160 : decode cL_loom 160 = .ok (.istore 5, 2) := by decide +kernel
theorem dL_loom_162 : decode cL_loom 162 = .ok (.goto 339, 3) := by decide +kernel
theorem dL_loom_165 : decode cL_loom 165 = .ok (.iload 9, 2) := by decide +kernel
theorem dL_loom_167 : decode cL_loom 167 = .ok (.bipush 8, 2) := by decide +kernel
theorem dL_loom_169 : decode cL_loom 169 = .ok (.if_icmp .ge 94, 3) := by decide +kernel
theorem dL_loom_172 : decode cL_loom 172 = .ok (.iload 7, 2) := by decide +kernel
theorem dL_loom_174 : decode cL_loom 174 = .ok (.iconst 3, 1) := by decide +kernel
theorem dL_loom_175 : decode cL_loom 175 = .ok (.irem, 1) := by decide +kernel
theorem dL_loom_176 : decode cL_loom 176 = .ok (.iconst 2, 1) := by decide +kernel
theorem dL_loom_177 : decode cL_loom 177 = .ok (.idiv, 1) := by decide +kernel
theorem dL_loom_178 : decode cL_loom 178 = .ok (.iload 7, 2) := by decide +kernel
theorem dL_loom_180 : decode cL_loom 180 = .ok (.iconst 3, 1) := by decide +kernel
theorem dL_loom_181 : decode cL_loom 181 = .ok (.idiv, 1) := by decide +kernel
theorem dL_loom_182 : decode cL_loom 182 = .ok (.iconst 2, 1) := by decide +kernel
theorem dL_loom_183 : decode cL_loom 183 = .ok (.irem, 1) := by decide +kernel
theorem dL_loom_184 : decode cL_loom 184 = .ok (.iadd, 1) := by decide +kernel
theorem dL_loom_185 : decode cL_loom 185 = .ok (.istore 11, 2) := by decide +kernel
theorem dL_loom_187 : decode cL_loom 187 = .ok (.aload 4, 2) := by decide +kernel
theorem dL_loom_189 : decode cL_loom 189 = .ok (.iload 11, 2) := by decide +kernel
theorem dL_loom_191 : decode cL_loom 191 = .ok (.dup2, 1) := by decide +kernel
theorem dL_loom_192 : decode cL_loom 192 = .ok (.iaload, 1) := by decide +kernel
theorem dL_loom_193 : decode cL_loom 193 = .ok (.iconst 1, 1) := by decide +kernel
theorem dL_loom_194 : decode cL_loom 194 = .ok (.iadd, 1) := by decide +kernel
theorem dL_loom_195 : decode cL_loom 195 = .ok (.iastore, 1) := by decide +kernel
theorem dL_loom_196 : decode cL_loom 196 = .ok (.aload_n 2, 1) := by decide +kernel
theorem dL_loom_197 : decode cL_loom 197 = .ok (.iload 11, 2) := by decide +kernel
theorem dL_loom_199 : decode cL_loom 199 = .ok (.iload 7, 2) := by decide +kernel
theorem dL_loom_201 : decode cL_loom 201 = .ok (.bipush 9, 2) := by decide +kernel
theorem dL_loom_203 : decode cL_loom 203 = .ok (.idiv, 1) := by decide +kernel
theorem dL_loom_204 : decode cL_loom 204 = .ok (.bipush 8, 2) := by decide +kernel
theorem dL_loom_206 : decode cL_loom 206 = .ok (.irem, 1) := by decide +kernel
theorem dL_loom_207 : decode cL_loom 207 = .ok (.iconst 1, 1) := by decide +kernel
theorem dL_loom_208 : decode cL_loom 208 = .ok (.iload 7, 2) := by decide +kernel
theorem dL_loom_210 : decode cL_loom 210 = .ok (.bipush 72, 2) := by decide +kernel
theorem dL_loom_212 : decode cL_loom 212 = .ok (.idiv, 1) := by decide +kernel
theorem dL_loom_213 : decode cL_loom 213 = .ok (.iconst 3, 1) := by decide +kernel
theorem dL_loom_214 : decode cL_loom 214 = .ok (.irem, 1) := by decide +kernel
theorem dL_loom_215 : decode cL_loom 215 = .ok (.iadd, 1) := by decide +kernel
theorem dL_loom_216 : decode cL_loom 216 = .ok (.idiv, 1) := by decide +kernel
theorem dL_loom_217 : decode cL_loom 217 = .ok (.iload 8, 2) := by decide +kernel
theorem dL_loom_219 : decode cL_loom 219 = .ok (.iconst 3, 1) := by decide +kernel
theorem dL_loom_220 : decode cL_loom 220 = .ok (.idiv, 1) := by decide +kernel
theorem dL_loom_221 : decode cL_loom 221 = .ok (.bipush 20, 2) := by decide +kernel
theorem dL_loom_223 : decode cL_loom 223 = .ok (.iconst 2, 1) := by decide +kernel
theorem dL_loom_224 : decode cL_loom 224 = .ok (.iload 6, 2) := by decide +kernel
theorem dL_loom_226 : decode cL_loom 226 = .ok (.imul, 1) := by decide +kernel
theorem dL_loom_227 : decode cL_loom 227 = .ok (.iadd, 1) := by decide +kernel
theorem dL_loom_228 : decode cL_loom 228 = .ok (.irem, 1) := by decide +kernel
theorem dL_loom_229 : decode cL_loom 229 = .ok (.iload 7, 2) := by decide +kernel
theorem dL_loom_231 : decode cL_loom 231 = .ok (.sipush 216, 3) := by decide +kernel
theorem dL_loom_234 : decode cL_loom 234 = .ok (.idiv, 1) := by decide +kernel
theorem dL_loom_235 : decode cL_loom 235 = .ok (.sipush 199, 3) := by decide +kernel
theorem dL_loom_238 : decode cL_loom 238 = .ok (.irem, 1) := by decide +kernel
theorem dL_loom_239 : decode cL_loom 239 = .ok (.bipush 99, 2) := by decide +kernel
theorem dL_loom_241 : decode cL_loom 241 = .ok (.isub, 1) := by decide +kernel
theorem dL_loom_242 : decode cL_loom 242 = .ok (.invokevirtual 125, 3) := by decide +kernel
theorem dL_loom_245 : decode cL_loom 245 = .ok (.aload 4, 2) := by decide +kernel
theorem dL_loom_247 : decode cL_loom 247 = .ok (.iload 11, 2) := by decide +kernel
theorem dL_loom_249 : decode cL_loom 249 = .ok (.iaload, 1) := by decide +kernel
theorem dL_loom_250 : decode cL_loom 250 = .ok (.if_icmp .ne 7, 3) := by decide +kernel
theorem dL_loom_253 : decode cL_loom 253 = .ok (.iconst 1, 1) := by decide +kernel
theorem dL_loom_254 : decode cL_loom 254 = .ok (.goto 4, 3) := by decide +kernel
theorem dL_loom_257 : decode cL_loom 257 = .ok (.iconst 0, 1) := by decide +kernel
theorem dL_loom_258 : decode cL_loom 258 = .ok (.istore 5, 2) := by decide +kernel
theorem dL_loom_260 : decode cL_loom 260 = .ok (.goto 241, 3) := by decide +kernel
theorem dL_loom_263 : decode cL_loom 263 = .ok (.iload 9, 2) := by decide +kernel
theorem dL_loom_265 : decode cL_loom 265 = .ok (.bipush 16, 2) := by decide +kernel
theorem dL_loom_267 : decode cL_loom 267 = .ok (.if_icmp .ge 27, 3) := by decide +kernel
theorem dL_loom_270 : decode cL_loom 270 = .ok (.aload_n 2, 1) := by decide +kernel
theorem dL_loom_271 : decode cL_loom 271 = .ok (.iload 7, 2) := by decide +kernel
theorem dL_loom_273 : decode cL_loom 273 = .ok (.iconst 3, 1) := by decide +kernel
theorem dL_loom_274 : decode cL_loom 274 = .ok (.irem, 1) := by decide +kernel
theorem dL_loom_275 : decode cL_loom 275 = .ok (.iconst 2, 1) := by decide +kernel
theorem dL_loom_276 : decode cL_loom 276 = .ok (.idiv, 1) := by decide +kernel
theorem dL_loom_277 : decode cL_loom 277 = .ok (.iload 7, 2) := by decide +kernel
theorem dL_loom_279 : decode cL_loom 279 = .ok (.iconst 3, 1) := by decide +kernel
theorem dL_loom_280 : decode cL_loom 280 = .ok (.idiv, 1) := by decide +kernel
theorem dL_loom_281 : decode cL_loom 281 = .ok (.iconst 2, 1) := by decide +kernel
theorem dL_loom_282 : decode cL_loom 282 = .ok (.irem, 1) := by decide +kernel
theorem dL_loom_283 : decode cL_loom 283 = .ok (.iadd, 1) := by decide +kernel
theorem dL_loom_284 : decode cL_loom 284 = .ok (.aload 4, 2) := by decide +kernel
theorem dL_loom_286 : decode cL_loom 286 = .ok (.invokestatic 129, 3) := by decide +kernel
theorem dL_loom_289 : decode cL_loom 289 = .ok (.istore 5, 2) := by decide +kernel
theorem dL_loom_291 : decode cL_loom 291 = .ok (.goto 210, 3) := by decide +kernel
theorem dL_loom_294 : decode cL_loom 294 = .ok (.iload 9, 2) := by decide +kernel
theorem dL_loom_296 : decode cL_loom 296 = .ok (.bipush 19, 2) := by decide +kernel
theorem dL_loom_298 : decode cL_loom 298 = .ok (.if_icmp .ge 16, 3) := by decide +kernel
theorem dL_loom_301 : decode cL_loom 301 = .ok (.aload_n 2, 1) := by decide +kernel
theorem dL_loom_302 : decode cL_loom 302 = .ok (.iload 7, 2) := by decide +kernel
theorem dL_loom_304 : decode cL_loom 304 = .ok (.aload 4, 2) := by decide +kernel
theorem dL_loom_306 : decode cL_loom 306 = .ok (.invokestatic 133, 3) := by decide +kernel
theorem dL_loom_309 : decode cL_loom 309 = .ok (.istore 5, 2) := by decide +kernel
theorem dL_loom_311 : decode cL_loom 311 = .ok (.goto 190, 3) := by decide +kernel
theorem dL_loom_314 : decode cL_loom 314 = .ok (.iload 9, 2) := by decide +kernel
theorem dL_loom_316 : decode cL_loom 316 = .ok (.bipush 19, 2) := by decide +kernel
theorem dL_loom_318 : decode cL_loom 318 = .ok (.if_icmp .ne 61, 3) := by decide +kernel
theorem dL_loom_321 : decode cL_loom 321 = .ok (.aload_n 2, 1) := by decide +kernel
theorem dL_loom_322 : decode cL_loom 322 = .ok (.iload 7, 2) := by decide +kernel
theorem dL_loom_324 : decode cL_loom 324 = .ok (.iconst 3, 1) := by decide +kernel
theorem dL_loom_325 : decode cL_loom 325 = .ok (.irem, 1) := by decide +kernel
theorem dL_loom_326 : decode cL_loom 326 = .ok (.iload 8, 2) := by decide +kernel
theorem dL_loom_328 : decode cL_loom 328 = .ok (.iconst 3, 1) := by decide +kernel
theorem dL_loom_329 : decode cL_loom 329 = .ok (.irem, 1) := by decide +kernel
theorem dL_loom_330 : decode cL_loom 330 = .ok (.ifCond .le 7, 3) := by decide +kernel
theorem dL_loom_333 : decode cL_loom 333 = .ok (.iconst 1, 1) := by decide +kernel
theorem dL_loom_334 : decode cL_loom 334 = .ok (.goto 4, 3) := by decide +kernel
theorem dL_loom_337 : decode cL_loom 337 = .ok (.iconst 0, 1) := by decide +kernel
theorem dL_loom_338 : decode cL_loom 338 = .ok (.invokevirtual 136, 3) := by decide +kernel
theorem dL_loom_341 : decode cL_loom 341 = .ok (.istore 11, 2) := by decide +kernel
theorem dL_loom_343 : decode cL_loom 343 = .ok (.iload 11, 2) := by decide +kernel
theorem dL_loom_345 : decode cL_loom 345 = .ok (.aload_n 2, 1) := by decide +kernel
theorem dL_loom_346 : decode cL_loom 346 = .ok (.invokevirtual 76, 3) := by decide +kernel
theorem dL_loom_349 : decode cL_loom 349 = .ok (.if_icmp .ne 17, 3) := by decide +kernel
theorem dL_loom_352 : decode cL_loom 352 = .ok (.iload 11, 2) := by decide +kernel
theorem dL_loom_354 : decode cL_loom 354 = .ok (.aload 4, 2) := by decide +kernel
theorem dL_loom_356 : decode cL_loom 356 = .ok (.bipush 8, 2) := by decide +kernel
theorem dL_loom_358 : decode cL_loom 358 = .ok (.iaload, 1) := by decide +kernel
theorem dL_loom_359 : decode cL_loom 359 = .ok (.if_icmp .lt 7, 3) := by decide +kernel
theorem dL_loom_362 : decode cL_loom 362 = .ok (.iconst 1, 1) := by decide +kernel
theorem dL_loom_363 : decode cL_loom 363 = .ok (.goto 4, 3) := by decide +kernel
theorem dL_loom_366 : decode cL_loom 366 = .ok (.iconst 0, 1) := by decide +kernel
theorem dL_loom_367 : decode cL_loom 367 = .ok (.istore 5, 2) := by decide +kernel
theorem dL_loom_369 : decode cL_loom 369 = .ok (.aload 4, 2) := by decide +kernel
theorem dL_loom_371 : decode cL_loom 371 = .ok (.bipush 8, 2) := by decide +kernel
theorem dL_loom_373 : decode cL_loom 373 = .ok (.iload 11, 2) := by decide +kernel
theorem dL_loom_375 : decode cL_loom 375 = .ok (.iastore, 1) := by decide +kernel
theorem dL_loom_376 : decode cL_loom 376 = .ok (.goto 125, 3) := by decide +kernel
theorem dL_loom_379 : decode cL_loom 379 = .ok (.iload 9, 2) := by decide +kernel
theorem dL_loom_381 : decode cL_loom 381 = .ok (.bipush 20, 2) := by decide +kernel
theorem dL_loom_383 : decode cL_loom 383 = .ok (.if_icmp .ne 70, 3) := by decide +kernel
theorem dL_loom_386 : decode cL_loom 386 = .ok (.aload_n 2, 1) := by decide +kernel
theorem dL_loom_387 : decode cL_loom 387 = .ok (.iload 7, 2) := by decide +kernel
theorem dL_loom_389 : decode cL_loom 389 = .ok (.iconst 3, 1) := by decide +kernel
theorem dL_loom_390 : decode cL_loom 390 = .ok (.irem, 1) := by decide +kernel
theorem dL_loom_391 : decode cL_loom 391 = .ok (.iload 8, 2) := by decide +kernel
theorem dL_loom_393 : decode cL_loom 393 = .ok (.bipush 8, 2) := by decide +kernel
theorem dL_loom_395 : decode cL_loom 395 = .ok (.irem, 1) := by decide +kernel
theorem dL_loom_396 : decode cL_loom 396 = .ok (.invokevirtual 140, 3) := by decide +kernel
theorem dL_loom_399 : decode cL_loom 399 = .ok (.ifCond .lt 48, 3) := by decide +kernel
theorem dL_loom_402 : decode cL_loom 402 = .ok (.iload 6, 2) := by decide +kernel
theorem dL_loom_404 : decode cL_loom 404 = .ok (.bipush 55, 2) := by decide +kernel
theorem dL_loom_406 : decode cL_loom 406 = .ok (.if_icmp .gt 37, 3) := by decide +kernel
theorem dL_loom_409 : decode cL_loom 409 = .ok (.aload_n 2, 1) := by decide +kernel
theorem dL_loom_410 : decode cL_loom 410 = .ok (.iload 7, 2) := by decide +kernel
theorem dL_loom_412 : decode cL_loom 412 = .ok (.iconst 3, 1) := by decide +kernel
theorem dL_loom_413 : decode cL_loom 413 = .ok (.idiv, 1) := by decide +kernel
theorem dL_loom_414 : decode cL_loom 414 = .ok (.bipush 8, 2) := by decide +kernel
theorem dL_loom_416 : decode cL_loom 416 = .ok (.irem, 1) := by decide +kernel
theorem dL_loom_417 : decode cL_loom 417 = .ok (.iload 8, 2) := by decide +kernel
theorem dL_loom_419 : decode cL_loom 419 = .ok (.bipush 8, 2) := by decide +kernel
theorem dL_loom_421 : decode cL_loom 421 = .ok (.idiv, 1) := by decide +kernel
theorem dL_loom_422 : decode cL_loom 422 = .ok (.bipush 60, 2) := by decide +kernel
theorem dL_loom_424 : decode cL_loom 424 = .ok (.irem, 1) := by decide +kernel
theorem dL_loom_425 : decode cL_loom 425 = .ok (.iload 7, 2) := by decide +kernel
theorem dL_loom_427 : decode cL_loom 427 = .ok (.bipush 24, 2) := by decide +kernel
theorem dL_loom_429 : decode cL_loom 429 = .ok (.idiv, 1) := by decide +kernel
theorem dL_loom_430 : decode cL_loom 430 = .ok (.sipush 199, 3) := by decide +kernel
theorem dL_loom_433 : decode cL_loom 433 = .ok (.irem, 1) := by decide +kernel
theorem dL_loom_434 : decode cL_loom 434 = .ok (.bipush 99, 2) := by decide +kernel
theorem dL_loom_436 : decode cL_loom 436 = .ok (.isub, 1) := by decide +kernel
theorem dL_loom_437 : decode cL_loom 437 = .ok (.invokevirtual 143, 3) := by decide +kernel
theorem dL_loom_440 : decode cL_loom 440 = .ok (.ifCond .le 7, 3) := by decide +kernel
theorem dL_loom_443 : decode cL_loom 443 = .ok (.iconst 1, 1) := by decide +kernel
theorem dL_loom_444 : decode cL_loom 444 = .ok (.goto 4, 3) := by decide +kernel
theorem dL_loom_447 : decode cL_loom 447 = .ok (.iconst 0, 1) := by decide +kernel
theorem dL_loom_448 : decode cL_loom 448 = .ok (.istore 5, 2) := by decide +kernel
theorem dL_loom_450 : decode cL_loom 450 = .ok (.goto 51, 3) := by decide +kernel
theorem dL_loom_453 : decode cL_loom 453 = .ok (.aload_n 2, 1) := by decide +kernel
theorem dL_loom_454 : decode cL_loom 454 = .ok (.invokevirtual 69, 3) := by decide +kernel
theorem dL_loom_457 : decode cL_loom 457 = .ok (.istore 11, 2) := by decide +kernel
theorem dL_loom_459 : decode cL_loom 459 = .ok (.aload_n 2, 1) := by decide +kernel
theorem dL_loom_460 : decode cL_loom 460 = .ok (.iconst 1, 1) := by decide +kernel
theorem dL_loom_461 : decode cL_loom 461 = .ok (.iload 7, 2) := by decide +kernel
theorem dL_loom_463 : decode cL_loom 463 = .ok (.iconst 4, 1) := by decide +kernel
theorem dL_loom_464 : decode cL_loom 464 = .ok (.irem, 1) := by decide +kernel
theorem dL_loom_465 : decode cL_loom 465 = .ok (.iadd, 1) := by decide +kernel
theorem dL_loom_466 : decode cL_loom 466 = .ok (.invokevirtual 147, 3) := by decide +kernel
theorem dL_loom_469 : decode cL_loom 469 = .ok (.istore 12, 2) := by decide +kernel
theorem dL_loom_471 : decode cL_loom 471 = .ok (.iload 12, 2) := by decide +kernel
theorem dL_loom_473 : decode cL_loom 473 = .ok (.ifCond .lt 14, 3) := by decide +kernel
theorem dL_loom_476 : decode cL_loom 476 = .ok (.iload 12, 2) := by decide +kernel
theorem dL_loom_478 : decode cL_loom 478 = .ok (.iload 11, 2) := by decide +kernel
theorem dL_loom_480 : decode cL_loom 480 = .ok (.if_icmp .gt 7, 3) := by decide +kernel
theorem dL_loom_483 : decode cL_loom 483 = .ok (.iconst 1, 1) := by decide +kernel
theorem dL_loom_484 : decode cL_loom 484 = .ok (.goto 4, 3) := by decide +kernel
theorem dL_loom_487 : decode cL_loom 487 = .ok (.iconst 0, 1) := by decide +kernel
theorem dL_loom_488 : decode cL_loom 488 = .ok (.istore 5, 2) := by decide +kernel
theorem dL_loom_490 : decode cL_loom 490 = .ok (.aload 4, 2) := by decide +kernel
theorem dL_loom_492 : decode cL_loom 492 = .ok (.bipush 7, 2) := by decide +kernel
theorem dL_loom_494 : decode cL_loom 494 = .ok (.iconst 1, 1) := by decide +kernel
theorem dL_loom_495 : decode cL_loom 495 = .ok (.iload 7, 2) := by decide +kernel
theorem dL_loom_497 : decode cL_loom 497 = .ok (.iconst 4, 1) := by decide +kernel
theorem dL_loom_498 : decode cL_loom 498 = .ok (.irem, 1) := by decide +kernel
theorem dL_loom_499 : decode cL_loom 499 = .ok (.iadd, 1) := by decide +kernel
theorem dL_loom_500 : decode cL_loom 500 = .ok (.iastore, 1) := by decide +kernel
theorem dL_loom_501 : decode cL_loom 501 = .ok (.iload 10, 2) := by decide +kernel
theorem dL_loom_503 : decode cL_loom 503 = .ok (.aload_n 2, 1) := by decide +kernel
theorem dL_loom_504 : decode cL_loom 504 = .ok (.invokevirtual 82, 3) := by decide +kernel
theorem dL_loom_507 : decode cL_loom 507 = .ok (.if_icmp .ge 8, 3) := by decide +kernel
theorem dL_loom_510 : decode cL_loom 510 = .ok (.iload 10, 2) := by decide +kernel
theorem dL_loom_512 : decode cL_loom 512 = .ok (.goto 7, 3) := by decide +kernel
theorem dL_loom_515 : decode cL_loom 515 = .ok (.aload_n 2, 1) := by decide +kernel
theorem dL_loom_516 : decode cL_loom 516 = .ok (.invokevirtual 82, 3) := by decide +kernel
theorem dL_loom_519 : decode cL_loom 519 = .ok (.istore 10, 2) := by decide +kernel
theorem dL_loom_521 : decode cL_loom 521 = .ok (.iload 5, 2) := by decide +kernel
theorem dL_loom_523 : decode cL_loom 523 = .ok (.ifCond .eq 57, 3) := by decide +kernel
theorem dL_loom_526 : decode cL_loom 526 = .ok (.aload 4, 2) := by decide +kernel
theorem dL_loom_528 : decode cL_loom 528 = .ok (.bipush 6, 2) := by decide +kernel
theorem dL_loom_530 : decode cL_loom 530 = .ok (.iaload, 1) := by decide +kernel
theorem dL_loom_531 : decode cL_loom 531 = .ok (.ifCond .eq 25, 3) := by decide +kernel
theorem dL_loom_534 : decode cL_loom 534 = .ok (.aload_n 2, 1) := by decide +kernel
theorem dL_loom_535 : decode cL_loom 535 = .ok (.aload_n 3, 1) := by decide +kernel
theorem dL_loom_536 : decode cL_loom 536 = .ok (.aload 4, 2) := by decide +kernel
theorem dL_loom_538 : decode cL_loom 538 = .ok (.invokestatic 150, 3) := by decide +kernel
theorem dL_loom_541 : decode cL_loom 541 = .ok (.ifCond .eq 39, 3) := by decide +kernel
theorem dL_loom_544 : decode cL_loom 544 = .ok (.aload_n 2, 1) := by decide +kernel
theorem dL_loom_545 : decode cL_loom 545 = .ok (.aload_n 3, 1) := by decide +kernel
theorem dL_loom_546 : decode cL_loom 546 = .ok (.aload 4, 2) := by decide +kernel
theorem dL_loom_548 : decode cL_loom 548 = .ok (.iload 10, 2) := by decide +kernel
theorem dL_loom_550 : decode cL_loom 550 = .ok (.invokestatic 154, 3) := by decide +kernel
theorem dL_loom_553 : decode cL_loom 553 = .ok (.ifCond .eq 27, 3) := by decide +kernel
theorem dL_loom_556 : decode cL_loom 556 = .ok (.iload 6, 2) := by decide +kernel
theorem dL_loom_558 : decode cL_loom 558 = .ok (.iconst 3, 1) := by decide +kernel
theorem dL_loom_559 : decode cL_loom 559 = .ok (.irem, 1) := by decide +kernel
theorem dL_loom_560 : decode cL_loom 560 = .ok (.iconst 2, 1) := by decide +kernel
theorem dL_loom_561 : decode cL_loom 561 = .ok (.if_icmp .lt 15, 3) := by decide +kernel
theorem dL_loom_564 : decode cL_loom 564 = .ok (.aload_n 2, 1) := by decide +kernel
theorem dL_loom_565 : decode cL_loom 565 = .ok (.aload_n 3, 1) := by decide +kernel
theorem dL_loom_566 : decode cL_loom 566 = .ok (.aload 4, 2) := by decide +kernel
theorem dL_loom_568 : decode cL_loom 568 = .ok (.iload 8, 2) := by decide +kernel
theorem dL_loom_570 : decode cL_loom 570 = .ok (.invokestatic 158, 3) := by decide +kernel
theorem dL_loom_573 : decode cL_loom 573 = .ok (.ifCond .eq 7, 3) := by decide +kernel
theorem dL_loom_576 : decode cL_loom 576 = .ok (.iconst 1, 1) := by decide +kernel
theorem dL_loom_577 : decode cL_loom 577 = .ok (.goto 4, 3) := by decide +kernel
theorem dL_loom_580 : decode cL_loom 580 = .ok (.iconst 0, 1) := by decide +kernel
theorem dL_loom_581 : decode cL_loom 581 = .ok (.istore 5, 2) := by decide +kernel
theorem dL_loom_583 : decode cL_loom 583 = .ok (.iinc 6 1, 3) := by decide +kernel
theorem dL_loom_586 : decode cL_loom 586 = .ok (.goto (-549), 3) := by decide +kernel
theorem dL_loom_589 : decode cL_loom 589 = .ok (.iload 5, 2) := by decide +kernel
theorem dL_loom_591 : decode cL_loom 591 = .ok (.ireturn, 1) := by decide +kernel
theorem dL_law_0 : decode cL_law 0 = .ok (.aload_n 0, 1) := by decide +kernel
theorem dL_law_1 : decode cL_law 1 = .ok (.iconst 0, 1) := by decide +kernel
theorem dL_law_2 : decode cL_law 2 = .ok (.invokestatic 161, 3) := by decide +kernel
theorem dL_law_5 : decode cL_law 5 = .ok (.ifCond .eq 27, 3) := by decide +kernel
theorem dL_law_8 : decode cL_law 8 = .ok (.aload_n 0, 1) := by decide +kernel
theorem dL_law_9 : decode cL_law 9 = .ok (.sipush 330, 3) := by decide +kernel
theorem dL_law_12 : decode cL_law 12 = .ok (.invokestatic 161, 3) := by decide +kernel
theorem dL_law_15 : decode cL_law 15 = .ok (.ifCond .eq 17, 3) := by decide +kernel
theorem dL_law_18 : decode cL_law 18 = .ok (.aload_n 0, 1) := by decide +kernel
theorem dL_law_19 : decode cL_law 19 = .ok (.sipush 660, 3) := by decide +kernel
theorem dL_law_22 : decode cL_law 22 = .ok (.invokestatic 161, 3) := by decide +kernel
theorem dL_law_25 : decode cL_law 25 = .ok (.ifCond .eq 7, 3) := by decide +kernel
theorem dL_law_28 : decode cL_law 28 = .ok (.iconst 1, 1) := by decide +kernel
theorem dL_law_29 : decode cL_law 29 = .ok (.goto 4, 3) := by decide +kernel
theorem dL_law_32 : decode cL_law 32 = .ok (.iconst 0, 1) := by decide +kernel
theorem dL_law_33 : decode cL_law 33 = .ok (.ireturn, 1) := by decide +kernel
