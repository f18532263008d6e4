/-! the builder: the JDK's own methods -/
theorem dJ4_append_15ec4_0 : decode cJ4_append_15ec4 0 = .ok (.aload_n 0, 1) := by decide +kernel
theorem dJ4_append_15ec4_1 : decode cJ4_append_15ec4 1 = .ok (.aload_n 1, 1) := by decide +kernel
theorem dJ4_append_15ec4_2 : decode cJ4_append_15ec4 2 = .ok (.invokespecial 29, 3) := by decide +kernel
theorem dJ4_append_15ec4_5 : decode cJ4_append_15ec4 5 = .ok (.pop, 1) := by decide +kernel
theorem dJ4_append_15ec4_6 : decode cJ4_append_15ec4 6 = .ok (.aload_n 0, 1) := by decide +kernel
theorem dJ4_append_15ec4_7 : decode cJ4_append_15ec4 7 = .ok (.areturn, 1) := by decide +kernel
theorem dJ4_append_cf468_0 : decode cJ4_append_cf468 0 = .ok (.aload_n 0, 1) := by decide +kernel
theorem dJ4_append_cf468_1 : decode cJ4_append_cf468 1 = .ok (.iload_n 1, 1) := by decide +kernel
theorem dJ4_append_cf468_2 : decode cJ4_append_cf468 2 = .ok (.invokespecial 50, 3) := by decide +kernel
theorem dJ4_append_cf468_5 : decode cJ4_append_cf468 5 = .ok (.pop, 1) := by decide +kernel
theorem dJ4_append_cf468_6 : decode cJ4_append_cf468 6 = .ok (.aload_n 0, 1) := by decide +kernel
theorem dJ4_append_cf468_7 : decode cJ4_append_cf468 7 = .ok (.areturn, 1) := by decide +kernel
theorem dJ4_append_bf812_0 : decode cJ4_append_bf812 0 = .ok (.aload_n 0, 1) := by decide +kernel
theorem dJ4_append_bf812_1 : decode cJ4_append_bf812 1 = .ok (.iload_n 1, 1) := by decide +kernel
theorem dJ4_append_bf812_2 : decode cJ4_append_bf812 2 = .ok (.invokespecial 53, 3) := by decide +kernel
theorem dJ4_append_bf812_5 : decode cJ4_append_bf812 5 = .ok (.pop, 1) := by decide +kernel
theorem dJ4_append_bf812_6 : decode cJ4_append_bf812 6 = .ok (.aload_n 0, 1) := by decide +kernel
theorem dJ4_append_bf812_7 : decode cJ4_append_bf812 7 = .ok (.areturn, 1) := by decide +kernel
theorem dJ4_charAt_5068e_0 : decode cJ4_charAt_5068e 0 = .ok (.aload_n 0, 1) := by decide +kernel
theorem dJ4_charAt_5068e_1 : decode cJ4_charAt_5068e 1 = .ok (.iload_n 1, 1) := by decide +kernel
theorem dJ4_charAt_5068e_2 : decode cJ4_charAt_5068e 2 = .ok (.invokespecial 329, 3) := by decide +kernel
theorem dJ4_charAt_5068e_5 : decode cJ4_charAt_5068e 5 = .ok (.ireturn, 1) := by decide +kernel
theorem dJ4_setLength_d00df_0 : decode cJ4_setLength_d00df 0 = .ok (.aload_n 0, 1) := by decide +kernel
theorem dJ4_setLength_d00df_1 : decode cJ4_setLength_d00df 1 = .ok (.iload_n 1, 1) := by decide +kernel
theorem dJ4_setLength_d00df_2 : decode cJ4_setLength_d00df 2 = .ok (.invokespecial 333, 3) := by decide +kernel
theorem dJ4_setLength_d00df_5 : decode cJ4_setLength_d00df 5 = .ok (.return_, 1) := by decide +kernel
theorem dJ4_length_8abf5_0 : decode cJ4_length_8abf5 0 = .ok (.aload_n 0, 1) := by decide +kernel
theorem dJ4_length_8abf5_1 : decode cJ4_length_8abf5 1 = .ok (.invokespecial 343, 3) := by decide +kernel
theorem dJ4_length_8abf5_4 : decode cJ4_length_8abf5 4 = .ok (.ireturn, 1) := by decide +kernel
theorem dJ5_append_cf1ce_0 : decode cJ5_append_cf1ce 0 = .ok (.aload_n 1, 1) := by decide +kernel
theorem dJ5_append_cf1ce_1 : decode cJ5_append_cf1ce 1 = .ok (.ifnonnull 8, 3) := by decide +kernel
theorem dJ5_append_cf1ce_4 : decode cJ5_append_cf1ce 4 = .ok (.aload_n 0, 1) := by decide +kernel
theorem dJ5_append_cf1ce_5 : decode cJ5_append_cf1ce 5 = .ok (.invokevirtual 204, 3) := by decide +kernel
theorem dJ5_append_cf1ce_8 : decode cJ5_append_cf1ce 8 = .ok (.areturn, 1) := by decide +kernel
theorem dJ5_append_cf1ce_9 : decode cJ5_append_cf1ce 9 = .ok (.aload_n 1, 1) := by decide +kernel
theorem dJ5_append_cf1ce_10 : decode cJ5_append_cf1ce 10 = .ok (.invokevirtual 32, 3) := by decide +kernel
theorem dJ5_append_cf1ce_13 : decode cJ5_append_cf1ce 13 = .ok (.istore_n 2, 1) := by decide +kernel
theorem dJ5_append_cf1ce_14 : decode cJ5_append_cf1ce 14 = .ok (.aload_n 0, 1) := by decide +kernel
theorem dJ5_append_cf1ce_15 : decode cJ5_append_cf1ce 15 = .ok (.aload_n 0, 1) := by decide +kernel
theorem dJ5_append_cf1ce_16 : decode cJ5_append_cf1ce 16 = .ok (.getfield 79, 3) := by decide +kernel
theorem dJ5_append_cf1ce_19 : decode cJ5_append_cf1ce 19 = .ok (.iload_n 2, 1) := by decide +kernel
theorem dJ5_append_cf1ce_20 : decode cJ5_append_cf1ce 20 = .ok (.iadd, 1) := by decide +kernel
theorem dJ5_append_cf1ce_21 : decode cJ5_append_cf1ce 21 = .ok (.invokevirtual 100, 3) := by decide +kernel
theorem dJ5_append_cf1ce_24 : decode cJ5_append_cf1ce 24 = .ok (.aload_n 0, 1) := by decide +kernel
theorem dJ5_append_cf1ce_25 : decode cJ5_append_cf1ce 25 = .ok (.aload_n 0, 1) := by decide +kernel
theorem dJ5_append_cf1ce_26 : decode cJ5_append_cf1ce 26 = .ok (.getfield 79, 3) := by decide +kernel
theorem dJ5_append_cf1ce_29 : decode cJ5_append_cf1ce 29 = .ok (.aload_n 1, 1) := by decide +kernel
theorem dJ5_append_cf1ce_30 : decode cJ5_append_cf1ce 30 = .ok (.invokevirtual 208, 3) := by decide +kernel
theorem dJ5_append_cf1ce_33 : decode cJ5_append_cf1ce 33 = .ok (.aload_n 0, 1) := by decide +kernel
theorem dJ5_append_cf1ce_34 : decode cJ5_append_cf1ce 34 = .ok (.dup, 1) := by decide +kernel
theorem dJ5_append_cf1ce_35 : decode cJ5_append_cf1ce 35 = .ok (.getfield 79, 3) := by decide +kernel
theorem dJ5_append_cf1ce_38 : decode cJ5_append_cf1ce 38 = .ok (.iload_n 2, 1) := by decide +kernel
theorem dJ5_append_cf1ce_39 : decode cJ5_append_cf1ce 39 = .ok (.iadd, 1) := by decide +kernel
theorem dJ5_append_cf1ce_40 : decode cJ5_append_cf1ce 40 = .ok (.putfield 79, 3) := by decide +kernel
theorem dJ5_append_cf1ce_43 : decode cJ5_append_cf1ce 43 = .ok (.aload_n 0, 1) := by decide +kernel
theorem dJ5_append_cf1ce_44 : decode cJ5_append_cf1ce 44 = .ok (.areturn, 1) := by decide +kernel
theorem dJ5_ensureCapacityInternal_d00df_0 : decode cJ5_ensureCapacityInternal_d00df 0 = .ok (.aload_n 0, 1) := by decide +kernel
theorem dJ5_ensureCapacityInternal_d00df_1 : decode cJ5_ensureCapacityInternal_d00df 1 = .ok (.getfield 15, 3) := by decide +kernel
theorem dJ5_ensureCapacityInternal_d00df_4 : decode cJ5_ensureCapacityInternal_d00df 4 = .ok (.arraylength, 1) := by decide +kernel
theorem dJ5_ensureCapacityInternal_d00df_5 : decode cJ5_ensureCapacityInternal_d00df 5 = .ok (.aload_n 0, 1) := by decide +kernel
theorem dJ5_ensureCapacityInternal_d00df_6 : decode cJ5_ensureCapacityInternal_d00df 6 = .ok (.getfield 22, 3) := by decide +kernel
theorem dJ5_ensureCapacityInternal_d00df_9 : decode cJ5_ensureCapacityInternal_d00df 9 = .ok (.ishr, 1) := by decide +kernel
theorem dJ5_ensureCapacityInternal_d00df_10 : decode cJ5_ensureCapacityInternal_d00df 10 = .ok (.istore_n 2, 1) := by decide +kernel
theorem dJ5_ensureCapacityInternal_d00df_11 : decode cJ5_ensureCapacityInternal_d00df 11 = .ok (.iload_n 1, 1) := by decide +kernel
theorem dJ5_ensureCapacityInternal_d00df_12 : decode cJ5_ensureCapacityInternal_d00df 12 = .ok (.iload_n 2, 1) := by decide +kernel
theorem dJ5_ensureCapacityInternal_d00df_13 : decode cJ5_ensureCapacityInternal_d00df 13 = .ok (.isub, 1) := by decide +kernel
theorem dJ5_ensureCapacityInternal_d00df_14 : decode cJ5_ensureCapacityInternal_d00df 14 = .ok (.ifCond .le 24, 3) := by decide +kernel
theorem dJ5_ensureCapacityInternal_d00df_17 : decode cJ5_ensureCapacityInternal_d00df 17 = .ok (.aload_n 0, 1) := by decide +kernel
theorem dJ5_ensureCapacityInternal_d00df_18 : decode cJ5_ensureCapacityInternal_d00df 18 = .ok (.aload_n 0, 1) := by decide +kernel
theorem dJ5_ensureCapacityInternal_d00df_19 : decode cJ5_ensureCapacityInternal_d00df 19 = .ok (.getfield 15, 3) := by decide +kernel
theorem dJ5_ensureCapacityInternal_d00df_22 : decode cJ5_ensureCapacityInternal_d00df 22 = .ok (.aload_n 0, 1) := by decide +kernel
theorem dJ5_ensureCapacityInternal_d00df_23 : decode cJ5_ensureCapacityInternal_d00df 23 = .ok (.iload_n 1, 1) := by decide +kernel
theorem dJ5_ensureCapacityInternal_d00df_24 : decode cJ5_ensureCapacityInternal_d00df 24 = .ok (.invokevirtual 104, 3) := by decide +kernel
theorem dJ5_ensureCapacityInternal_d00df_27 : decode cJ5_ensureCapacityInternal_d00df 27 = .ok (.aload_n 0, 1) := by decide +kernel
theorem dJ5_ensureCapacityInternal_d00df_28 : decode cJ5_ensureCapacityInternal_d00df 28 = .ok (.getfield 22, 3) := by decide +kernel
theorem dJ5_ensureCapacityInternal_d00df_31 : decode cJ5_ensureCapacityInternal_d00df 31 = .ok (.ishl, 1) := by decide +kernel
theorem dJ5_ensureCapacityInternal_d00df_32 : decode cJ5_ensureCapacityInternal_d00df 32 = .ok (.invokestatic 108, 3) := by decide +kernel
theorem dJ5_ensureCapacityInternal_d00df_35 : decode cJ5_ensureCapacityInternal_d00df 35 = .ok (.putfield 15, 3) := by decide +kernel
theorem dJ5_ensureCapacityInternal_d00df_38 : decode cJ5_ensureCapacityInternal_d00df 38 = .ok (.return_, 1) := by decide +kernel
theorem dJ5_newCapacity_0f7a4_0 : decode cJ5_newCapacity_0f7a4 0 = .ok (.aload_n 0, 1) := by decide +kernel
theorem dJ5_newCapacity_0f7a4_1 : decode cJ5_newCapacity_0f7a4 1 = .ok (.getfield 15, 3) := by decide +kernel
theorem dJ5_newCapacity_0f7a4_4 : decode cJ5_newCapacity_0f7a4 4 = .ok (.arraylength, 1) := by decide +kernel
theorem dJ5_newCapacity_0f7a4_5 : decode cJ5_newCapacity_0f7a4 5 = .ok (.istore_n 2, 1) := by decide +kernel
theorem dJ5_newCapacity_0f7a4_6 : decode cJ5_newCapacity_0f7a4 6 = .ok (.iload_n 1, 1) := by decide +kernel
theorem dJ5_newCapacity_0f7a4_7 : decode cJ5_newCapacity_0f7a4 7 = .ok (.aload_n 0, 1) := by decide +kernel
theorem dJ5_newCapacity_0f7a4_8 : decode cJ5_newCapacity_0f7a4 8 = .ok (.getfield 22, 3) := by decide +kernel
theorem dJ5_newCapacity_0f7a4_11 : decode cJ5_newCapacity_0f7a4 11 = .ok (.ishl, 1) := by decide +kernel
theorem dJ5_newCapacity_0f7a4_12 : decode cJ5_newCapacity_0f7a4 12 = .ok (.istore_n 3, 1) := by decide +kernel
theorem dJ5_newCapacity_0f7a4_13 : decode cJ5_newCapacity_0f7a4 13 = .ok (.iload_n 3, 1) := by decide +kernel
theorem dJ5_newCapacity_0f7a4_14 : decode cJ5_newCapacity_0f7a4 14 = .ok (.iload_n 2, 1) := by decide +kernel
theorem dJ5_newCapacity_0f7a4_15 : decode cJ5_newCapacity_0f7a4 15 = .ok (.isub, 1) := by decide +kernel
theorem dJ5_newCapacity_0f7a4_16 : decode cJ5_newCapacity_0f7a4 16 = .ok (.istore 4, 2) := by decide +kernel
theorem dJ5_newCapacity_0f7a4_18 : decode cJ5_newCapacity_0f7a4 18 = .ok (.iload_n 2, 1) := by decide +kernel
theorem dJ5_newCapacity_0f7a4_19 : decode cJ5_newCapacity_0f7a4 19 = .ok (.iload 4, 2) := by decide +kernel
theorem dJ5_newCapacity_0f7a4_21 : decode cJ5_newCapacity_0f7a4 21 = .ok (.iload_n 2, 1) := by decide +kernel
theorem dJ5_newCapacity_0f7a4_22 : decode cJ5_newCapacity_0f7a4 22 = .ok (.iconst 2, 1) := by decide +kernel
theorem dJ5_newCapacity_0f7a4_23 : decode cJ5_newCapacity_0f7a4 23 = .ok (.aload_n 0, 1) := by decide +kernel
theorem dJ5_newCapacity_0f7a4_24 : decode cJ5_newCapacity_0f7a4 24 = .ok (.getfield 22, 3) := by decide +kernel
theorem dJ5_newCapacity_0f7a4_27 : decode cJ5_newCapacity_0f7a4 27 = .ok (.ishl, 1) := by decide +kernel
theorem dJ5_newCapacity_0f7a4_28 : decode cJ5_newCapacity_0f7a4 28 = .ok (.iadd, 1) := by decide +kernel
theorem dJ5_newCapacity_0f7a4_29 : decode cJ5_newCapacity_0f7a4 29 = .ok (.invokestatic 114, 3) := by decide +kernel
theorem dJ5_newCapacity_0f7a4_32 : decode cJ5_newCapacity_0f7a4 32 = .ok (.istore 5, 2) := by decide +kernel
theorem dJ5_newCapacity_0f7a4_34 : decode cJ5_newCapacity_0f7a4 34 = .ok (.iload 5, 2) := by decide +kernel
theorem dJ5_newCapacity_0f7a4_36 : decode cJ5_newCapacity_0f7a4 36 = .ok (.ldc 39, 2) := by decide +kernel
theorem dJ5_newCapacity_0f7a4_38 : decode cJ5_newCapacity_0f7a4 38 = .ok (.if_icmp .ne 13, 3) := by decide +kernel
theorem dJ5_newCapacity_0f7a4_41 : decode cJ5_newCapacity_0f7a4 41 = .ok (.new 120, 3) := by decide +kernel
theorem dJ5_newCapacity_0f7a4_44 : decode cJ5_newCapacity_0f7a4 44 = .ok (.dup, 1) := by decide +kernel
theorem dJ5_newCapacity_0f7a4_45 : decode cJ5_newCapacity_0f7a4 45 = .ok (.ldc 122, 2) := by decide +kernel
theorem dJ5_newCapacity_0f7a4_47 : decode cJ5_newCapacity_0f7a4 47 = .ok (.invokespecial 124, 3) := by decide +kernel
theorem dJ5_newCapacity_0f7a4_50 : decode cJ5_newCapacity_0f7a4 50 = .ok (.athrow, 1) := by decide +kernel
theorem dJ5_newCapacity_0f7a4_51 : decode cJ5_newCapacity_0f7a4 51 = .ok (.iload 5, 2) := by decide +kernel
theorem dJ5_newCapacity_0f7a4_53 : decode cJ5_newCapacity_0f7a4 53 = .ok (.aload_n 0, 1) := by decide +kernel
theorem dJ5_newCapacity_0f7a4_54 : decode cJ5_newCapacity_0f7a4 54 = .ok (.getfield 22, 3) := by decide +kernel
theorem dJ5_newCapacity_0f7a4_57 : decode cJ5_newCapacity_0f7a4 57 = .ok (.ishr, 1) := by decide +kernel
theorem dJ5_newCapacity_0f7a4_58 : decode cJ5_newCapacity_0f7a4 58 = .ok (.ireturn, 1) := by decide +kernel
theorem dJ8_newLength_cabcc_0 : decode cJ8_newLength_cabcc 0 = .ok (.iload_n 0, 1) := by decide +kernel
theorem dJ8_newLength_cabcc_1 : decode cJ8_newLength_cabcc 1 = .ok (.iload_n 1, 1) := by decide +kernel
theorem dJ8_newLength_cabcc_2 : decode cJ8_newLength_cabcc 2 = .ok (.iload_n 2, 1) := by decide +kernel
theorem dJ8_newLength_cabcc_3 : decode cJ8_newLength_cabcc 3 = .ok (.invokestatic 194, 3) := by decide +kernel
theorem dJ8_newLength_cabcc_6 : decode cJ8_newLength_cabcc 6 = .ok (.iadd, 1) := by decide +kernel
theorem dJ8_newLength_cabcc_7 : decode cJ8_newLength_cabcc 7 = .ok (.istore_n 3, 1) := by decide +kernel
theorem dJ8_newLength_cabcc_8 : decode cJ8_newLength_cabcc 8 = .ok (.iconst 0, 1) := by decide +kernel
theorem dJ8_newLength_cabcc_9 : decode cJ8_newLength_cabcc 9 = .ok (.iload_n 3, 1) := by decide +kernel
theorem dJ8_newLength_cabcc_10 : decode cJ8_newLength_cabcc 10 = .ok (.if_icmp .ge 11, 3) := by decide +kernel
theorem dJ8_newLength_cabcc_13 : decode cJ8_newLength_cabcc 13 = .ok (.iload_n 3, 1) := by decide +kernel
theorem dJ8_newLength_cabcc_14 : decode cJ8_newLength_cabcc 14 = .ok (.ldc 200, 2) := by decide +kernel
theorem dJ8_newLength_cabcc_16 : decode cJ8_newLength_cabcc 16 = .ok (.if_icmp .gt 5, 3) := by decide +kernel
theorem dJ8_newLength_cabcc_19 : decode cJ8_newLength_cabcc 19 = .ok (.iload_n 3, 1) := by decide +kernel
theorem dJ8_newLength_cabcc_20 : decode cJ8_newLength_cabcc 20 = .ok (.ireturn, 1) := by decide +kernel
theorem dJ8_newLength_cabcc_21 : decode cJ8_newLength_cabcc 21 = .ok (.iload_n 0, 1) := by decide +kernel
theorem dJ8_newLength_cabcc_22 : decode cJ8_newLength_cabcc 22 = .ok (.iload_n 1, 1) := by decide +kernel
theorem dJ8_newLength_cabcc_23 : decode cJ8_newLength_cabcc 23 = .ok (.invokestatic 201, 3) := by decide +kernel
theorem dJ8_newLength_cabcc_26 : decode cJ8_newLength_cabcc 26 = .ok (.ireturn, 1) := by decide +kernel
theorem dJ7_copyOf_9075b_0 : decode cJ7_copyOf_9075b 0 = .ok (.iload_n 1, 1) := by decide +kernel
theorem dJ7_copyOf_9075b_1 : decode cJ7_copyOf_9075b 1 = .ok (.aload_n 0, 1) := by decide +kernel
theorem dJ7_copyOf_9075b_2 : decode cJ7_copyOf_9075b 2 = .ok (.arraylength, 1) := by decide +kernel
theorem dJ7_copyOf_9075b_3 : decode cJ7_copyOf_9075b 3 = .ok (.if_icmp .ne 11, 3) := by decide +kernel
theorem dJ7_copyOf_9075b_6 : decode cJ7_copyOf_9075b 6 = .ok (.aload_n 0, 1) := by decide +kernel
theorem dJ7_copyOf_9075b_7 : decode cJ7_copyOf_9075b 7 = .ok (.invokevirtual 310, 3) := by decide +kernel
theorem dJ7_copyOf_9075b_10 : decode cJ7_copyOf_9075b 10 = .ok (.checkcast 311, 3) := by decide +kernel
theorem dJ7_copyOf_9075b_13 : decode cJ7_copyOf_9075b 13 = .ok (.areturn, 1) := by decide +kernel
theorem dJ7_copyOf_9075b_14 : decode cJ7_copyOf_9075b 14 = .ok (.iload_n 1, 1) := by decide +kernel
theorem dJ7_copyOf_9075b_15 : decode cJ7_copyOf_9075b 15 = .ok (.newarray .byte, 2) := by decide +kernel
theorem dJ7_copyOf_9075b_17 : decode cJ7_copyOf_9075b 17 = .ok (.astore_n 2, 1) := by decide +kernel
theorem dJ7_copyOf_9075b_18 : decode cJ7_copyOf_9075b 18 = .ok (.aload_n 0, 1) := by decide +kernel
theorem dJ7_copyOf_9075b_19 : decode cJ7_copyOf_9075b 19 = .ok (.iconst 0, 1) := by decide +kernel
theorem dJ7_copyOf_9075b_20 : decode cJ7_copyOf_9075b 20 = .ok (.aload_n 2, 1) := by decide +kernel
theorem dJ7_copyOf_9075b_21 : decode cJ7_copyOf_9075b 21 = .ok (.iconst 0, 1) := by decide +kernel
theorem dJ7_copyOf_9075b_22 : decode cJ7_copyOf_9075b 22 = .ok (.aload_n 0, 1) := by decide +kernel
theorem dJ7_copyOf_9075b_23 : decode cJ7_copyOf_9075b 23 = .ok (.arraylength, 1) := by decide +kernel
theorem dJ7_copyOf_9075b_24 : decode cJ7_copyOf_9075b 24 = .ok (.iload_n 1, 1) := by decide +kernel
theorem dJ7_copyOf_9075b_25 : decode cJ7_copyOf_9075b 25 = .ok (.invokestatic 304, 3) := by decide +kernel
theorem dJ7_copyOf_9075b_28 : decode cJ7_copyOf_9075b 28 = .ok (.invokestatic 150, 3) := by decide +kernel
theorem dJ7_copyOf_9075b_31 : decode cJ7_copyOf_9075b 31 = .ok (.aload_n 2, 1) := by decide +kernel
theorem dJ7_copyOf_9075b_32 : decode cJ7_copyOf_9075b 32 = .ok (.areturn, 1) := by decide +kernel
theorem dJ5_putStringAt_47b60_0 : decode cJ5_putStringAt_47b60 0 = .ok (.aload_n 0, 1) := by decide +kernel
theorem dJ5_putStringAt_47b60_1 : decode cJ5_putStringAt_47b60 1 = .ok (.aload_n 2, 1) := by decide +kernel
theorem dJ5_putStringAt_47b60_2 : decode cJ5_putStringAt_47b60 2 = .ok (.invokevirtual 397, 3) := by decide +kernel
theorem dJ5_putStringAt_47b60_5 : decode cJ5_putStringAt_47b60 5 = .ok (.aload_n 2, 1) := by decide +kernel
theorem dJ5_putStringAt_47b60_6 : decode cJ5_putStringAt_47b60 6 = .ok (.aload_n 0, 1) := by decide +kernel
theorem dJ5_putStringAt_47b60_7 : decode cJ5_putStringAt_47b60 7 = .ok (.getfield 15, 3) := by decide +kernel
theorem dJ5_putStringAt_47b60_10 : decode cJ5_putStringAt_47b60 10 = .ok (.iload_n 1, 1) := by decide +kernel
theorem dJ5_putStringAt_47b60_11 : decode cJ5_putStringAt_47b60 11 = .ok (.aload_n 0, 1) := by decide +kernel
theorem dJ5_putStringAt_47b60_12 : decode cJ5_putStringAt_47b60 12 = .ok (.getfield 22, 3) := by decide +kernel
theorem dJ5_putStringAt_47b60_15 : decode cJ5_putStringAt_47b60 15 = .ok (.invokevirtual 399, 3) := by decide +kernel
theorem dJ5_putStringAt_47b60_18 : decode cJ5_putStringAt_47b60 18 = .ok (.return_, 1) := by decide +kernel
theorem dJ5_inflateIfNeededFor_a7421_0 : decode cJ5_inflateIfNeededFor_a7421 0 = .ok (.getstatic 18, 3) := by decide +kernel
theorem dJ5_inflateIfNeededFor_a7421_3 : decode cJ5_inflateIfNeededFor_a7421 3 = .ok (.ifCond .eq 18, 3) := by decide +kernel
theorem dJ5_inflateIfNeededFor_a7421_6 : decode cJ5_inflateIfNeededFor_a7421 6 = .ok (.aload_n 0, 1) := by decide +kernel
theorem dJ5_inflateIfNeededFor_a7421_7 : decode cJ5_inflateIfNeededFor_a7421 7 = .ok (.getfield 22, 3) := by decide +kernel
theorem dJ5_inflateIfNeededFor_a7421_10 : decode cJ5_inflateIfNeededFor_a7421 10 = .ok (.aload_n 1, 1) := by decide +kernel
theorem dJ5_inflateIfNeededFor_a7421_11 : decode cJ5_inflateIfNeededFor_a7421 11 = .ok (.invokevirtual 40, 3) := by decide +kernel
theorem dJ5_inflateIfNeededFor_a7421_14 : decode cJ5_inflateIfNeededFor_a7421 14 = .ok (.if_icmp .eq 7, 3) := by decide +kernel
theorem dJ5_inflateIfNeededFor_a7421_17 : decode cJ5_inflateIfNeededFor_a7421 17 = .ok (.aload_n 0, 1) := by decide +kernel
theorem dJ5_inflateIfNeededFor_a7421_18 : decode cJ5_inflateIfNeededFor_a7421 18 = .ok (.invokevirtual 195, 3) := by decide +kernel
theorem dJ5_inflateIfNeededFor_a7421_21 : decode cJ5_inflateIfNeededFor_a7421 21 = .ok (.return_, 1) := by decide +kernel
theorem dJ0_getBytes_840e7_0 : decode cJ0_getBytes_840e7 0 = .ok (.aload_n 0, 1) := by decide +kernel
theorem dJ0_getBytes_840e7_1 : decode cJ0_getBytes_840e7 1 = .ok (.invokevirtual 335, 3) := by decide +kernel
theorem dJ0_getBytes_840e7_4 : decode cJ0_getBytes_840e7 4 = .ok (.iload_n 3, 1) := by decide +kernel
theorem dJ0_getBytes_840e7_5 : decode cJ0_getBytes_840e7 5 = .ok (.if_icmp .ne 23, 3) := by decide +kernel
theorem dJ0_getBytes_840e7_8 : decode cJ0_getBytes_840e7 8 = .ok (.aload_n 0, 1) := by decide +kernel
theorem dJ0_getBytes_840e7_9 : decode cJ0_getBytes_840e7 9 = .ok (.getfield 9, 3) := by decide +kernel
theorem dJ0_getBytes_840e7_12 : decode cJ0_getBytes_840e7 12 = .ok (.iconst 0, 1) := by decide +kernel
theorem dJ0_getBytes_840e7_13 : decode cJ0_getBytes_840e7 13 = .ok (.aload_n 1, 1) := by decide +kernel
theorem dJ0_getBytes_840e7_14 : decode cJ0_getBytes_840e7 14 = .ok (.iload_n 2, 1) := by decide +kernel
theorem dJ0_getBytes_840e7_15 : decode cJ0_getBytes_840e7 15 = .ok (.iload_n 3, 1) := by decide +kernel
theorem dJ0_getBytes_840e7_16 : decode cJ0_getBytes_840e7 16 = .ok (.ishl, 1) := by decide +kernel
theorem dJ0_getBytes_840e7_17 : decode cJ0_getBytes_840e7 17 = .ok (.aload_n 0, 1) := by decide +kernel
theorem dJ0_getBytes_840e7_18 : decode cJ0_getBytes_840e7 18 = .ok (.getfield 9, 3) := by decide +kernel
theorem dJ0_getBytes_840e7_21 : decode cJ0_getBytes_840e7 21 = .ok (.arraylength, 1) := by decide +kernel
theorem dJ0_getBytes_840e7_22 : decode cJ0_getBytes_840e7 22 = .ok (.invokestatic 212, 3) := by decide +kernel
theorem dJ0_getBytes_840e7_25 : decode cJ0_getBytes_840e7 25 = .ok (.goto 18, 3) := by decide +kernel
theorem dJ0_getBytes_840e7_28 : decode cJ0_getBytes_840e7 28 = .ok (.aload_n 0, 1) := by decide +kernel
theorem dJ0_getBytes_840e7_29 : decode cJ0_getBytes_840e7 29 = .ok (.getfield 9, 3) := by decide +kernel
theorem dJ0_getBytes_840e7_32 : decode cJ0_getBytes_840e7 32 = .ok (.iconst 0, 1) := by decide +kernel
theorem dJ0_getBytes_840e7_33 : decode cJ0_getBytes_840e7 33 = .ok (.aload_n 1, 1) := by decide +kernel
theorem dJ0_getBytes_840e7_34 : decode cJ0_getBytes_840e7 34 = .ok (.iload_n 2, 1) := by decide +kernel
theorem dJ0_getBytes_840e7_35 : decode cJ0_getBytes_840e7 35 = .ok (.aload_n 0, 1) := by decide +kernel
theorem dJ0_getBytes_840e7_36 : decode cJ0_getBytes_840e7 36 = .ok (.getfield 9, 3) := by decide +kernel
theorem dJ0_getBytes_840e7_39 : decode cJ0_getBytes_840e7 39 = .ok (.arraylength, 1) := by decide +kernel
theorem dJ0_getBytes_840e7_40 : decode cJ0_getBytes_840e7 40 = .ok (.invokestatic 106, 3) := by decide +kernel
theorem dJ0_getBytes_840e7_43 : decode cJ0_getBytes_840e7 43 = .ok (.return_, 1) := by decide +kernel
theorem dJ5_append_3fe6f_0 : decode cJ5_append_3fe6f 0 = .ok (.aload_n 0, 1) := by decide +kernel
theorem dJ5_append_3fe6f_1 : decode cJ5_append_3fe6f 1 = .ok (.aload_n 0, 1) := by decide +kernel
theorem dJ5_append_3fe6f_2 : decode cJ5_append_3fe6f 2 = .ok (.getfield 79, 3) := by decide +kernel
theorem dJ5_append_3fe6f_5 : decode cJ5_append_3fe6f 5 = .ok (.iconst 1, 1) := by decide +kernel
theorem dJ5_append_3fe6f_6 : decode cJ5_append_3fe6f 6 = .ok (.iadd, 1) := by decide +kernel
theorem dJ5_append_3fe6f_7 : decode cJ5_append_3fe6f 7 = .ok (.invokevirtual 100, 3) := by decide +kernel
theorem dJ5_append_3fe6f_10 : decode cJ5_append_3fe6f 10 = .ok (.aload_n 0, 1) := by decide +kernel
theorem dJ5_append_3fe6f_11 : decode cJ5_append_3fe6f 11 = .ok (.invokevirtual 83, 3) := by decide +kernel
theorem dJ5_append_3fe6f_14 : decode cJ5_append_3fe6f 14 = .ok (.ifCond .eq 31, 3) := by decide +kernel
theorem dJ5_append_3fe6f_17 : decode cJ5_append_3fe6f 17 = .ok (.iload_n 1, 1) := by decide +kernel
theorem dJ5_append_3fe6f_18 : decode cJ5_append_3fe6f 18 = .ok (.invokestatic 191, 3) := by decide +kernel
theorem dJ5_append_3fe6f_21 : decode cJ5_append_3fe6f 21 = .ok (.ifCond .eq 24, 3) := by decide +kernel
theorem dJ5_append_3fe6f_24 : decode cJ5_append_3fe6f 24 = .ok (.aload_n 0, 1) := by decide +kernel
theorem dJ5_append_3fe6f_25 : decode cJ5_append_3fe6f 25 = .ok (.getfield 15, 3) := by decide +kernel
theorem dJ5_append_3fe6f_28 : decode cJ5_append_3fe6f 28 = .ok (.aload_n 0, 1) := by decide +kernel
theorem dJ5_append_3fe6f_29 : decode cJ5_append_3fe6f 29 = .ok (.dup, 1) := by decide +kernel
theorem dJ5_append_3fe6f_30 : decode cJ5_append_3fe6f 30 = .ok (.getfield 79, 3) := by decide +kernel
theorem dJ5_append_3fe6f_33 : decode cJ5_append_3fe6f 33 = .ok (.dup_x1, 1) := by decide +kernel
theorem dJ5_append_3fe6f_34 : decode cJ5_append_3fe6f 34 = .ok (.iconst 1, 1) := by decide +kernel
theorem dJ5_append_3fe6f_35 : decode cJ5_append_3fe6f 35 = .ok (.iadd, 1) := by decide +kernel
theorem dJ5_append_3fe6f_36 : decode cJ5_append_3fe6f 36 = .ok (.putfield 79, 3) := by decide +kernel
theorem dJ5_append_3fe6f_39 : decode cJ5_append_3fe6f 39 = .ok (.iload_n 1, 1) := by decide +kernel
theorem dJ5_append_3fe6f_40 : decode cJ5_append_3fe6f 40 = .ok (.i2b, 1) := by decide +kernel
theorem dJ5_append_3fe6f_41 : decode cJ5_append_3fe6f 41 = .ok (.bastore, 1) := by decide +kernel
theorem dJ5_append_3fe6f_42 : decode cJ5_append_3fe6f 42 = .ok (.goto 33, 3) := by decide +kernel
theorem dJ5_append_3fe6f_45 : decode cJ5_append_3fe6f 45 = .ok (.aload_n 0, 1) := by decide +kernel
theorem dJ5_append_3fe6f_46 : decode cJ5_append_3fe6f 46 = .ok (.invokevirtual 83, 3) := by decide +kernel
theorem dJ5_append_3fe6f_49 : decode cJ5_append_3fe6f 49 = .ok (.ifCond .eq 7, 3) := by decide +kernel
theorem dJ5_append_3fe6f_52 : decode cJ5_append_3fe6f 52 = .ok (.aload_n 0, 1) := by decide +kernel
theorem dJ5_append_3fe6f_53 : decode cJ5_append_3fe6f 53 = .ok (.invokevirtual 195, 3) := by decide +kernel
theorem dJ5_append_3fe6f_56 : decode cJ5_append_3fe6f 56 = .ok (.aload_n 0, 1) := by decide +kernel
theorem dJ5_append_3fe6f_57 : decode cJ5_append_3fe6f 57 = .ok (.getfield 15, 3) := by decide +kernel
theorem dJ5_append_3fe6f_60 : decode cJ5_append_3fe6f 60 = .ok (.aload_n 0, 1) := by decide +kernel
theorem dJ5_append_3fe6f_61 : decode cJ5_append_3fe6f 61 = .ok (.dup, 1) := by decide +kernel
theorem dJ5_append_3fe6f_62 : decode cJ5_append_3fe6f 62 = .ok (.getfield 79, 3) := by decide +kernel
theorem dJ5_append_3fe6f_65 : decode cJ5_append_3fe6f 65 = .ok (.dup_x1, 1) := by decide +kernel
theorem dJ5_append_3fe6f_66 : decode cJ5_append_3fe6f 66 = .ok (.iconst 1, 1) := by decide +kernel
theorem dJ5_append_3fe6f_67 : decode cJ5_append_3fe6f 67 = .ok (.iadd, 1) := by decide +kernel
theorem dJ5_append_3fe6f_68 : decode cJ5_append_3fe6f 68 = .ok (.putfield 79, 3) := by decide +kernel
theorem dJ5_append_3fe6f_71 : decode cJ5_append_3fe6f 71 = .ok (.iload_n 1, 1) := by decide +kernel
theorem dJ5_append_3fe6f_72 : decode cJ5_append_3fe6f 72 = .ok (.invokestatic 197, 3) := by decide +kernel
theorem dJ5_append_3fe6f_75 : decode cJ5_append_3fe6f 75 = .ok (.aload_n 0, 1) := by decide +kernel
theorem dJ5_append_3fe6f_76 : decode cJ5_append_3fe6f 76 = .ok (.areturn, 1) := by decide +kernel
theorem dJ5_isLatin1_aae02_0 : decode cJ5_isLatin1_aae02 0 = .ok (.getstatic 18, 3) := by decide +kernel
theorem dJ5_isLatin1_aae02_3 : decode cJ5_isLatin1_aae02 3 = .ok (.ifCond .eq 14, 3) := by decide +kernel
theorem dJ5_isLatin1_aae02_6 : decode cJ5_isLatin1_aae02 6 = .ok (.aload_n 0, 1) := by decide +kernel
theorem dJ5_isLatin1_aae02_7 : decode cJ5_isLatin1_aae02 7 = .ok (.getfield 22, 3) := by decide +kernel
theorem dJ5_isLatin1_aae02_10 : decode cJ5_isLatin1_aae02 10 = .ok (.ifCond .ne 7, 3) := by decide +kernel
theorem dJ5_isLatin1_aae02_13 : decode cJ5_isLatin1_aae02 13 = .ok (.iconst 1, 1) := by decide +kernel
theorem dJ5_isLatin1_aae02_14 : decode cJ5_isLatin1_aae02 14 = .ok (.goto 4, 3) := by decide +kernel
theorem dJ5_isLatin1_aae02_17 : decode cJ5_isLatin1_aae02 17 = .ok (.iconst 0, 1) := by decide +kernel
theorem dJ5_isLatin1_aae02_18 : decode cJ5_isLatin1_aae02 18 = .ok (.ireturn, 1) := by decide +kernel
theorem dJ1_canEncode_fc78d_0 : decode cJ1_canEncode_fc78d 0 = .ok (.iload_n 0, 1) := by decide +kernel
theorem dJ1_canEncode_fc78d_1 : decode cJ1_canEncode_fc78d 1 = .ok (.sipush 255, 3) := by decide +kernel
theorem dJ1_canEncode_fc78d_4 : decode cJ1_canEncode_fc78d 4 = .ok (.if_icmp .gt 7, 3) := by decide +kernel
theorem dJ1_canEncode_fc78d_7 : decode cJ1_canEncode_fc78d 7 = .ok (.iconst 1, 1) := by decide +kernel
theorem dJ1_canEncode_fc78d_8 : decode cJ1_canEncode_fc78d 8 = .ok (.goto 4, 3) := by decide +kernel
theorem dJ1_canEncode_fc78d_11 : decode cJ1_canEncode_fc78d 11 = .ok (.iconst 0, 1) := by decide +kernel
theorem dJ1_canEncode_fc78d_12 : decode cJ1_canEncode_fc78d 12 = .ok (.ireturn, 1) := by decide +kernel
theorem dJ5_append_c97b9_0 : decode cJ5_append_c97b9 0 = .ok (.aload_n 0, 1) := by decide +kernel
theorem dJ5_append_c97b9_1 : decode cJ5_append_c97b9 1 = .ok (.getfield 79, 3) := by decide +kernel
theorem dJ5_append_c97b9_4 : decode cJ5_append_c97b9 4 = .ok (.istore_n 2, 1) := by decide +kernel
theorem dJ5_append_c97b9_5 : decode cJ5_append_c97b9 5 = .ok (.iload_n 2, 1) := by decide +kernel
theorem dJ5_append_c97b9_6 : decode cJ5_append_c97b9 6 = .ok (.iload_n 1, 1) := by decide +kernel
theorem dJ5_append_c97b9_7 : decode cJ5_append_c97b9 7 = .ok (.invokestatic 245, 3) := by decide +kernel
theorem dJ5_append_c97b9_10 : decode cJ5_append_c97b9 10 = .ok (.iadd, 1) := by decide +kernel
theorem dJ5_append_c97b9_11 : decode cJ5_append_c97b9 11 = .ok (.istore_n 3, 1) := by decide +kernel
theorem dJ5_append_c97b9_12 : decode cJ5_append_c97b9 12 = .ok (.aload_n 0, 1) := by decide +kernel
theorem dJ5_append_c97b9_13 : decode cJ5_append_c97b9 13 = .ok (.iload_n 3, 1) := by decide +kernel
theorem dJ5_append_c97b9_14 : decode cJ5_append_c97b9 14 = .ok (.invokevirtual 100, 3) := by decide +kernel
theorem dJ5_append_c97b9_17 : decode cJ5_append_c97b9 17 = .ok (.aload_n 0, 1) := by decide +kernel
theorem dJ5_append_c97b9_18 : decode cJ5_append_c97b9 18 = .ok (.invokevirtual 83, 3) := by decide +kernel
theorem dJ5_append_c97b9_21 : decode cJ5_append_c97b9 21 = .ok (.ifCond .eq 16, 3) := by decide +kernel
theorem dJ5_append_c97b9_24 : decode cJ5_append_c97b9 24 = .ok (.iload_n 1, 1) := by decide +kernel
theorem dJ5_append_c97b9_25 : decode cJ5_append_c97b9 25 = .ok (.iload_n 3, 1) := by decide +kernel
theorem dJ5_append_c97b9_26 : decode cJ5_append_c97b9 26 = .ok (.aload_n 0, 1) := by decide +kernel
theorem dJ5_append_c97b9_27 : decode cJ5_append_c97b9 27 = .ok (.getfield 15, 3) := by decide +kernel
theorem dJ5_append_c97b9_30 : decode cJ5_append_c97b9 30 = .ok (.invokestatic 248, 3) := by decide +kernel
theorem dJ5_append_c97b9_33 : decode cJ5_append_c97b9 33 = .ok (.pop, 1) := by decide +kernel
theorem dJ5_append_c97b9_34 : decode cJ5_append_c97b9 34 = .ok (.goto 14, 3) := by decide +kernel
theorem dJ5_append_c97b9_37 : decode cJ5_append_c97b9 37 = .ok (.iload_n 1, 1) := by decide +kernel
theorem dJ5_append_c97b9_38 : decode cJ5_append_c97b9 38 = .ok (.iload_n 2, 1) := by decide +kernel
theorem dJ5_append_c97b9_39 : decode cJ5_append_c97b9 39 = .ok (.iload_n 3, 1) := by decide +kernel
theorem dJ5_append_c97b9_40 : decode cJ5_append_c97b9 40 = .ok (.aload_n 0, 1) := by decide +kernel
theorem dJ5_append_c97b9_41 : decode cJ5_append_c97b9 41 = .ok (.getfield 15, 3) := by decide +kernel
theorem dJ5_append_c97b9_44 : decode cJ5_append_c97b9 44 = .ok (.invokestatic 251, 3) := by decide +kernel
theorem dJ5_append_c97b9_47 : decode cJ5_append_c97b9 47 = .ok (.pop, 1) := by decide +kernel
theorem dJ5_append_c97b9_48 : decode cJ5_append_c97b9 48 = .ok (.aload_n 0, 1) := by decide +kernel
theorem dJ5_append_c97b9_49 : decode cJ5_append_c97b9 49 = .ok (.iload_n 3, 1) := by decide +kernel
theorem dJ5_append_c97b9_50 : decode cJ5_append_c97b9 50 = .ok (.putfield 79, 3) := by decide +kernel
theorem dJ5_append_c97b9_53 : decode cJ5_append_c97b9 53 = .ok (.aload_n 0, 1) := by decide +kernel
theorem dJ5_append_c97b9_54 : decode cJ5_append_c97b9 54 = .ok (.areturn, 1) := by decide +kernel
theorem dJ6_stringSize_0f7a4_0 : decode cJ6_stringSize_0f7a4 0 = .ok (.iconst 1, 1) := by decide +kernel
theorem dJ6_stringSize_0f7a4_1 : decode cJ6_stringSize_0f7a4 1 = .ok (.istore_n 1, 1) := by decide +kernel
theorem dJ6_stringSize_0f7a4_2 : decode cJ6_stringSize_0f7a4 2 = .ok (.iload_n 0, 1) := by decide +kernel
theorem dJ6_stringSize_0f7a4_3 : decode cJ6_stringSize_0f7a4 3 = .ok (.ifCond .lt 8, 3) := by decide +kernel
theorem dJ6_stringSize_0f7a4_6 : decode cJ6_stringSize_0f7a4 6 = .ok (.iconst 0, 1) := by decide +kernel
theorem dJ6_stringSize_0f7a4_7 : decode cJ6_stringSize_0f7a4 7 = .ok (.istore_n 1, 1) := by decide +kernel
theorem dJ6_stringSize_0f7a4_8 : decode cJ6_stringSize_0f7a4 8 = .ok (.iload_n 0, 1) := by decide +kernel
theorem dJ6_stringSize_0f7a4_9 : decode cJ6_stringSize_0f7a4 9 = .ok (.ineg, 1) := by decide +kernel
theorem dJ6_stringSize_0f7a4_10 : decode cJ6_stringSize_0f7a4 10 = .ok (.istore_n 0, 1) := by decide +kernel
theorem dJ6_stringSize_0f7a4_11 : decode cJ6_stringSize_0f7a4 11 = .ok (.bipush (-10), 2) := by decide +kernel
theorem dJ6_stringSize_0f7a4_13 : decode cJ6_stringSize_0f7a4 13 = .ok (.istore_n 2, 1) := by decide +kernel
theorem dJ6_stringSize_0f7a4_14 : decode cJ6_stringSize_0f7a4 14 = .ok (.iconst 1, 1) := by decide +kernel
theorem dJ6_stringSize_0f7a4_15 : decode cJ6_stringSize_0f7a4 15 = .ok (.istore_n 3, 1) := by decide +kernel
theorem dJ6_stringSize_0f7a4_16 : decode cJ6_stringSize_0f7a4 16 = .ok (.iload_n 3, 1) := by decide +kernel
theorem dJ6_stringSize_0f7a4_17 : decode cJ6_stringSize_0f7a4 17 = .ok (.bipush 10, 2) := by decide +kernel
theorem dJ6_stringSize_0f7a4_19 : decode cJ6_stringSize_0f7a4 19 = .ok (.if_icmp .ge 23, 3) := by decide +kernel
theorem dJ6_stringSize_0f7a4_22 : decode cJ6_stringSize_0f7a4 22 = .ok (.iload_n 0, 1) := by decide +kernel
theorem dJ6_stringSize_0f7a4_23 : decode cJ6_stringSize_0f7a4 23 = .ok (.iload_n 2, 1) := by decide +kernel
theorem dJ6_stringSize_0f7a4_24 : decode cJ6_stringSize_0f7a4 24 = .ok (.if_icmp .le 7, 3) := by decide +kernel
theorem dJ6_stringSize_0f7a4_27 : decode cJ6_stringSize_0f7a4 27 = .ok (.iload_n 3, 1) := by decide +kernel
theorem dJ6_stringSize_0f7a4_28 : decode cJ6_stringSize_0f7a4 28 = .ok (.iload_n 1, 1) := by decide +kernel
theorem dJ6_stringSize_0f7a4_29 : decode cJ6_stringSize_0f7a4 29 = .ok (.iadd, 1) := by decide +kernel
theorem dJ6_stringSize_0f7a4_30 : decode cJ6_stringSize_0f7a4 30 = .ok (.ireturn, 1) := by decide +kernel
theorem dJ6_stringSize_0f7a4_31 : decode cJ6_stringSize_0f7a4 31 = .ok (.bipush 10, 2) := by decide +kernel
theorem dJ6_stringSize_0f7a4_33 : decode cJ6_stringSize_0f7a4 33 = .ok (.iload_n 2, 1) := by decide +kernel
theorem dJ6_stringSize_0f7a4_34 : decode cJ6_stringSize_0f7a4 34 = .ok (.imul, 1) := by decide +kernel
theorem dJ6_stringSize_0f7a4_35 : decode cJ6_stringSize_0f7a4 35 = .ok (.istore_n 2, 1) := by decide +kernel
theorem dJ6_stringSize_0f7a4_36 : decode cJ6_stringSize_0f7a4 36 = .ok (.iinc 3 1, 3) := by decide +kernel
theorem dJ6_stringSize_0f7a4_39 : decode cJ6_stringSize_0f7a4 39 = .ok (.goto (-23), 3) := by decide +kernel
theorem dJ6_stringSize_0f7a4_42 : decode cJ6_stringSize_0f7a4 42 = .ok (.bipush 10, 2) := by decide +kernel
theorem dJ6_stringSize_0f7a4_44 : decode cJ6_stringSize_0f7a4 44 = .ok (.iload_n 1, 1) := by decide +kernel
theorem dJ6_stringSize_0f7a4_45 : decode cJ6_stringSize_0f7a4 45 = .ok (.iadd, 1) := by decide +kernel
theorem dJ6_stringSize_0f7a4_46 : decode cJ6_stringSize_0f7a4 46 = .ok (.ireturn, 1) := by decide +kernel
theorem dJ6_getChars_ba4f3_0 : decode cJ6_getChars_ba4f3 0 = .ok (.iload_n 1, 1) := by decide +kernel
theorem dJ6_getChars_ba4f3_1 : decode cJ6_getChars_ba4f3 1 = .ok (.istore 5, 2) := by decide +kernel
theorem dJ6_getChars_ba4f3_3 : decode cJ6_getChars_ba4f3 3 = .ok (.iload_n 0, 1) := by decide +kernel
theorem dJ6_getChars_ba4f3_4 : decode cJ6_getChars_ba4f3 4 = .ok (.ifCond .ge 7, 3) := by decide +kernel
theorem dJ6_getChars_ba4f3_7 : decode cJ6_getChars_ba4f3 7 = .ok (.iconst 1, 1) := by decide +kernel
theorem dJ6_getChars_ba4f3_8 : decode cJ6_getChars_ba4f3 8 = .ok (.goto 4, 3) := by decide +kernel
theorem dJ6_getChars_ba4f3_11 : decode cJ6_getChars_ba4f3 11 = .ok (.iconst 0, 1) := by decide +kernel
theorem dJ6_getChars_ba4f3_12 : decode cJ6_getChars_ba4f3 12 = .ok (.istore 6, 2) := by decide +kernel
theorem dJ6_getChars_ba4f3_14 : decode cJ6_getChars_ba4f3 14 = .ok (.iload 6, 2) := by decide +kernel
theorem dJ6_getChars_ba4f3_16 : decode cJ6_getChars_ba4f3 16 = .ok (.ifCond .ne 6, 3) := by decide +kernel
theorem dJ6_getChars_ba4f3_19 : decode cJ6_getChars_ba4f3 19 = .ok (.iload_n 0, 1) := by decide +kernel
theorem dJ6_getChars_ba4f3_20 : decode cJ6_getChars_ba4f3 20 = .ok (.ineg, 1) := by decide +kernel
theorem dJ6_getChars_ba4f3_21 : decode cJ6_getChars_ba4f3 21 = .ok (.istore_n 0, 1) := by decide +kernel
theorem dJ6_getChars_ba4f3_22 : decode cJ6_getChars_ba4f3 22 = .ok (.iload_n 0, 1) := by decide +kernel
theorem dJ6_getChars_ba4f3_23 : decode cJ6_getChars_ba4f3 23 = .ok (.bipush (-100), 2) := by decide +kernel
theorem dJ6_getChars_ba4f3_25 : decode cJ6_getChars_ba4f3 25 = .ok (.if_icmp .gt 47, 3) := by decide +kernel
theorem dJ6_getChars_ba4f3_28 : decode cJ6_getChars_ba4f3 28 = .ok (.iload_n 0, 1) := by decide +kernel
theorem dJ6_getChars_ba4f3_29 : decode cJ6_getChars_ba4f3 29 = .ok (.bipush 100, 2) := by decide +kernel
theorem dJ6_getChars_ba4f3_31 : decode cJ6_getChars_ba4f3 31 = .ok (.idiv, 1) := by decide +kernel
theorem dJ6_getChars_ba4f3_32 : decode cJ6_getChars_ba4f3 32 = .ok (.istore_n 3, 1) := by decide +kernel
theorem dJ6_getChars_ba4f3_33 : decode cJ6_getChars_ba4f3 33 = .ok (.iload_n 3, 1) := by decide +kernel
theorem dJ6_getChars_ba4f3_34 : decode cJ6_getChars_ba4f3 34 = .ok (.bipush 100, 2) := by decide +kernel
theorem dJ6_getChars_ba4f3_36 : decode cJ6_getChars_ba4f3 36 = .ok (.imul, 1) := by decide +kernel
theorem dJ6_getChars_ba4f3_37 : decode cJ6_getChars_ba4f3 37 = .ok (.iload_n 0, 1) := by decide +kernel
theorem dJ6_getChars_ba4f3_38 : decode cJ6_getChars_ba4f3 38 = .ok (.isub, 1) := by decide +kernel
theorem dJ6_getChars_ba4f3_39 : decode cJ6_getChars_ba4f3 39 = .ok (.istore 4, 2) := by decide +kernel
theorem dJ6_getChars_ba4f3_41 : decode cJ6_getChars_ba4f3 41 = .ok (.iload_n 3, 1) := by decide +kernel
theorem dJ6_getChars_ba4f3_42 : decode cJ6_getChars_ba4f3 42 = .ok (.istore_n 0, 1) := by decide +kernel
theorem dJ6_getChars_ba4f3_43 : decode cJ6_getChars_ba4f3 43 = .ok (.aload_n 2, 1) := by decide +kernel
theorem dJ6_getChars_ba4f3_44 : decode cJ6_getChars_ba4f3 44 = .ok (.iinc 5 (-1), 3) := by decide +kernel
theorem dJ6_getChars_ba4f3_47 : decode cJ6_getChars_ba4f3 47 = .ok (.iload 5, 2) := by decide +kernel
theorem dJ6_getChars_ba4f3_49 : decode cJ6_getChars_ba4f3 49 = .ok (.getstatic 83, 3) := by decide +kernel
theorem dJ6_getChars_ba4f3_52 : decode cJ6_getChars_ba4f3 52 = .ok (.iload 4, 2) := by decide +kernel
theorem dJ6_getChars_ba4f3_54 : decode cJ6_getChars_ba4f3 54 = .ok (.baload, 1) := by decide +kernel
theorem dJ6_getChars_ba4f3_55 : decode cJ6_getChars_ba4f3 55 = .ok (.bastore, 1) := by decide +kernel
theorem dJ6_getChars_ba4f3_56 : decode cJ6_getChars_ba4f3 56 = .ok (.aload_n 2, 1) := by decide +kernel
theorem dJ6_getChars_ba4f3_57 : decode cJ6_getChars_ba4f3 57 = .ok (.iinc 5 (-1), 3) := by decide +kernel
theorem dJ6_getChars_ba4f3_60 : decode cJ6_getChars_ba4f3 60 = .ok (.iload 5, 2) := by decide +kernel
theorem dJ6_getChars_ba4f3_62 : decode cJ6_getChars_ba4f3 62 = .ok (.getstatic 87, 3) := by decide +kernel
theorem dJ6_getChars_ba4f3_65 : decode cJ6_getChars_ba4f3 65 = .ok (.iload 4, 2) := by decide +kernel
theorem dJ6_getChars_ba4f3_67 : decode cJ6_getChars_ba4f3 67 = .ok (.baload, 1) := by decide +kernel
theorem dJ6_getChars_ba4f3_68 : decode cJ6_getChars_ba4f3 68 = .ok (.bastore, 1) := by decide +kernel
theorem dJ6_getChars_ba4f3_69 : decode cJ6_getChars_ba4f3 69 = .ok (.goto (-47), 3) := by decide +kernel
theorem dJ6_getChars_ba4f3_72 : decode cJ6_getChars_ba4f3 72 = .ok (.aload_n 2, 1) := by decide +kernel
theorem dJ6_getChars_ba4f3_73 : decode cJ6_getChars_ba4f3 73 = .ok (.iinc 5 (-1), 3) := by decide +kernel
theorem dJ6_getChars_ba4f3_76 : decode cJ6_getChars_ba4f3 76 = .ok (.iload 5, 2) := by decide +kernel
theorem dJ6_getChars_ba4f3_78 : decode cJ6_getChars_ba4f3 78 = .ok (.getstatic 83, 3) := by decide +kernel
theorem dJ6_getChars_ba4f3_81 : decode cJ6_getChars_ba4f3 81 = .ok (.iload_n 0, 1) := by decide +kernel
theorem dJ6_getChars_ba4f3_82 : decode cJ6_getChars_ba4f3 82 = .ok (.ineg, 1) := by decide +kernel
theorem dJ6_getChars_ba4f3_83 : decode cJ6_getChars_ba4f3 83 = .ok (.baload, 1) := by decide +kernel
theorem dJ6_getChars_ba4f3_84 : decode cJ6_getChars_ba4f3 84 = .ok (.bastore, 1) := by decide +kernel
theorem dJ6_getChars_ba4f3_85 : decode cJ6_getChars_ba4f3 85 = .ok (.iload_n 0, 1) := by decide +kernel
theorem dJ6_getChars_ba4f3_86 : decode cJ6_getChars_ba4f3 86 = .ok (.bipush (-9), 2) := by decide +kernel
theorem dJ6_getChars_ba4f3_88 : decode cJ6_getChars_ba4f3 88 = .ok (.if_icmp .ge 16, 3) := by decide +kernel
theorem dJ6_getChars_ba4f3_91 : decode cJ6_getChars_ba4f3 91 = .ok (.aload_n 2, 1) := by decide +kernel
theorem dJ6_getChars_ba4f3_92 : decode cJ6_getChars_ba4f3 92 = .ok (.iinc 5 (-1), 3) := by decide +kernel
theorem dJ6_getChars_ba4f3_95 : decode cJ6_getChars_ba4f3 95 = .ok (.iload 5, 2) := by decide +kernel
theorem dJ6_getChars_ba4f3_97 : decode cJ6_getChars_ba4f3 97 = .ok (.getstatic 87, 3) := by decide +kernel
theorem dJ6_getChars_ba4f3_100 : decode cJ6_getChars_ba4f3 100 = .ok (.iload_n 0, 1) := by decide +kernel
theorem dJ6_getChars_ba4f3_101 : decode cJ6_getChars_ba4f3 101 = .ok (.ineg, 1) := by decide +kernel
theorem dJ6_getChars_ba4f3_102 : decode cJ6_getChars_ba4f3 102 = .ok (.baload, 1) := by decide +kernel
theorem dJ6_getChars_ba4f3_103 : decode cJ6_getChars_ba4f3 103 = .ok (.bastore, 1) := by decide +kernel
theorem dJ6_getChars_ba4f3_104 : decode cJ6_getChars_ba4f3 104 = .ok (.iload 6, 2) := by decide +kernel
theorem dJ6_getChars_ba4f3_106 : decode cJ6_getChars_ba4f3 106 = .ok (.ifCond .eq 12, 3) := by decide +kernel
theorem dJ6_getChars_ba4f3_109 : decode cJ6_getChars_ba4f3 109 = .ok (.aload_n 2, 1) := by decide +kernel
theorem dJ6_getChars_ba4f3_110 : decode cJ6_getChars_ba4f3 110 = .ok (.iinc 5 (-1), 3) := by decide +kernel
theorem dJ6_getChars_ba4f3_113 : decode cJ6_getChars_ba4f3 113 = .ok (.iload 5, 2) := by decide +kernel
theorem dJ6_getChars_ba4f3_115 : decode cJ6_getChars_ba4f3 115 = .ok (.bipush 45, 2) := by decide +kernel
theorem dJ6_getChars_ba4f3_117 : decode cJ6_getChars_ba4f3 117 = .ok (.bastore, 1) := by decide +kernel
theorem dJ6_getChars_ba4f3_118 : decode cJ6_getChars_ba4f3 118 = .ok (.iload 5, 2) := by decide +kernel
theorem dJ6_getChars_ba4f3_120 : decode cJ6_getChars_ba4f3 120 = .ok (.ireturn, 1) := by decide +kernel
theorem dJ5_setLength_d00df_0 : decode cJ5_setLength_d00df 0 = .ok (.iload_n 1, 1) := by decide +kernel
theorem dJ5_setLength_d00df_1 : decode cJ5_setLength_d00df 1 = .ok (.ifCond .ge 12, 3) := by decide +kernel
theorem dJ5_setLength_d00df_4 : decode cJ5_setLength_d00df 4 = .ok (.new 129, 3) := by decide +kernel
theorem dJ5_setLength_d00df_7 : decode cJ5_setLength_d00df 7 = .ok (.dup, 1) := by decide +kernel
theorem dJ5_setLength_d00df_8 : decode cJ5_setLength_d00df 8 = .ok (.iload_n 1, 1) := by decide +kernel
theorem dJ5_setLength_d00df_9 : decode cJ5_setLength_d00df 9 = .ok (.invokespecial 131, 3) := by decide +kernel
theorem dJ5_setLength_d00df_12 : decode cJ5_setLength_d00df 12 = .ok (.athrow, 1) := by decide +kernel
theorem dJ5_setLength_d00df_13 : decode cJ5_setLength_d00df 13 = .ok (.aload_n 0, 1) := by decide +kernel
theorem dJ5_setLength_d00df_14 : decode cJ5_setLength_d00df 14 = .ok (.iload_n 1, 1) := by decide +kernel
theorem dJ5_setLength_d00df_15 : decode cJ5_setLength_d00df 15 = .ok (.invokevirtual 100, 3) := by decide +kernel
theorem dJ5_setLength_d00df_18 : decode cJ5_setLength_d00df 18 = .ok (.aload_n 0, 1) := by decide +kernel
theorem dJ5_setLength_d00df_19 : decode cJ5_setLength_d00df 19 = .ok (.getfield 79, 3) := by decide +kernel
theorem dJ5_setLength_d00df_22 : decode cJ5_setLength_d00df 22 = .ok (.iload_n 1, 1) := by decide +kernel
theorem dJ5_setLength_d00df_23 : decode cJ5_setLength_d00df 23 = .ok (.if_icmp .ge 40, 3) := by decide +kernel
theorem dJ5_setLength_d00df_26 : decode cJ5_setLength_d00df 26 = .ok (.aload_n 0, 1) := by decide +kernel
theorem dJ5_setLength_d00df_27 : decode cJ5_setLength_d00df 27 = .ok (.invokevirtual 83, 3) := by decide +kernel
theorem dJ5_setLength_d00df_30 : decode cJ5_setLength_d00df 30 = .ok (.ifCond .eq 18, 3) := by decide +kernel
theorem dJ5_setLength_d00df_33 : decode cJ5_setLength_d00df 33 = .ok (.aload_n 0, 1) := by decide +kernel
theorem dJ5_setLength_d00df_34 : decode cJ5_setLength_d00df 34 = .ok (.getfield 15, 3) := by decide +kernel
theorem dJ5_setLength_d00df_37 : decode cJ5_setLength_d00df 37 = .ok (.aload_n 0, 1) := by decide +kernel
theorem dJ5_setLength_d00df_38 : decode cJ5_setLength_d00df 38 = .ok (.getfield 79, 3) := by decide +kernel
theorem dJ5_setLength_d00df_41 : decode cJ5_setLength_d00df 41 = .ok (.iload_n 1, 1) := by decide +kernel
theorem dJ5_setLength_d00df_42 : decode cJ5_setLength_d00df 42 = .ok (.invokestatic 133, 3) := by decide +kernel
theorem dJ5_setLength_d00df_45 : decode cJ5_setLength_d00df 45 = .ok (.goto 31, 3) := by decide +kernel
theorem dJ5_setLength_d00df_48 : decode cJ5_setLength_d00df 48 = .ok (.aload_n 0, 1) := by decide +kernel
theorem dJ5_setLength_d00df_49 : decode cJ5_setLength_d00df 49 = .ok (.getfield 15, 3) := by decide +kernel
theorem dJ5_setLength_d00df_52 : decode cJ5_setLength_d00df 52 = .ok (.aload_n 0, 1) := by decide +kernel
theorem dJ5_setLength_d00df_53 : decode cJ5_setLength_d00df 53 = .ok (.getfield 79, 3) := by decide +kernel
theorem dJ5_setLength_d00df_56 : decode cJ5_setLength_d00df 56 = .ok (.iload_n 1, 1) := by decide +kernel
theorem dJ5_setLength_d00df_57 : decode cJ5_setLength_d00df 57 = .ok (.invokestatic 137, 3) := by decide +kernel
theorem dJ5_setLength_d00df_60 : decode cJ5_setLength_d00df 60 = .ok (.goto 16, 3) := by decide +kernel
theorem dJ5_setLength_d00df_63 : decode cJ5_setLength_d00df 63 = .ok (.aload_n 0, 1) := by decide +kernel
theorem dJ5_setLength_d00df_64 : decode cJ5_setLength_d00df 64 = .ok (.getfield 79, 3) := by decide +kernel
theorem dJ5_setLength_d00df_67 : decode cJ5_setLength_d00df 67 = .ok (.iload_n 1, 1) := by decide +kernel
theorem dJ5_setLength_d00df_68 : decode cJ5_setLength_d00df 68 = .ok (.if_icmp .le 8, 3) := by decide +kernel
theorem dJ5_setLength_d00df_71 : decode cJ5_setLength_d00df 71 = .ok (.aload_n 0, 1) := by decide +kernel
theorem dJ5_setLength_d00df_72 : decode cJ5_setLength_d00df 72 = .ok (.iconst 1, 1) := by decide +kernel
theorem dJ5_setLength_d00df_73 : decode cJ5_setLength_d00df 73 = .ok (.putfield 73, 3) := by decide +kernel
theorem dJ5_setLength_d00df_76 : decode cJ5_setLength_d00df 76 = .ok (.aload_n 0, 1) := by decide +kernel
theorem dJ5_setLength_d00df_77 : decode cJ5_setLength_d00df 77 = .ok (.iload_n 1, 1) := by decide +kernel
theorem dJ5_setLength_d00df_78 : decode cJ5_setLength_d00df 78 = .ok (.putfield 79, 3) := by decide +kernel
theorem dJ5_setLength_d00df_81 : decode cJ5_setLength_d00df 81 = .ok (.return_, 1) := by decide +kernel
theorem dJ5_length_8abf5_0 : decode cJ5_length_8abf5 0 = .ok (.aload_n 0, 1) := by decide +kernel
theorem dJ5_length_8abf5_1 : decode cJ5_length_8abf5 1 = .ok (.getfield 79, 3) := by decide +kernel
theorem dJ5_length_8abf5_4 : decode cJ5_length_8abf5 4 = .ok (.ireturn, 1) := by decide +kernel
theorem dJ5_charAt_5068e_0 : decode cJ5_charAt_5068e 0 = .ok (.aload_n 0, 1) := by decide +kernel
theorem dJ5_charAt_5068e_1 : decode cJ5_charAt_5068e 1 = .ok (.getfield 22, 3) := by decide +kernel
theorem dJ5_charAt_5068e_4 : decode cJ5_charAt_5068e 4 = .ok (.istore_n 2, 1) := by decide +kernel
theorem dJ5_charAt_5068e_5 : decode cJ5_charAt_5068e 5 = .ok (.aload_n 0, 1) := by decide +kernel
theorem dJ5_charAt_5068e_6 : decode cJ5_charAt_5068e 6 = .ok (.getfield 15, 3) := by decide +kernel
theorem dJ5_charAt_5068e_9 : decode cJ5_charAt_5068e 9 = .ok (.astore_n 3, 1) := by decide +kernel
theorem dJ5_charAt_5068e_10 : decode cJ5_charAt_5068e 10 = .ok (.aload_n 0, 1) := by decide +kernel
theorem dJ5_charAt_5068e_11 : decode cJ5_charAt_5068e 11 = .ok (.getfield 79, 3) := by decide +kernel
theorem dJ5_charAt_5068e_14 : decode cJ5_charAt_5068e 14 = .ok (.aload_n 3, 1) := by decide +kernel
theorem dJ5_charAt_5068e_15 : decode cJ5_charAt_5068e 15 = .ok (.arraylength, 1) := by decide +kernel
theorem dJ5_charAt_5068e_16 : decode cJ5_charAt_5068e 16 = .ok (.iload_n 2, 1) := by decide +kernel
theorem dJ5_charAt_5068e_17 : decode cJ5_charAt_5068e 17 = .ok (.ishr, 1) := by decide +kernel
theorem dJ5_charAt_5068e_18 : decode cJ5_charAt_5068e 18 = .ok (.invokestatic 138, 3) := by decide +kernel
theorem dJ5_charAt_5068e_21 : decode cJ5_charAt_5068e 21 = .ok (.istore 4, 2) := by decide +kernel
theorem dJ5_charAt_5068e_23 : decode cJ5_charAt_5068e 23 = .ok (.iload_n 1, 1) := by decide +kernel
theorem dJ5_charAt_5068e_24 : decode cJ5_charAt_5068e 24 = .ok (.iload 4, 2) := by decide +kernel
theorem dJ5_charAt_5068e_26 : decode cJ5_charAt_5068e 26 = .ok (.invokestatic 144, 3) := by decide +kernel
theorem dJ5_charAt_5068e_29 : decode cJ5_charAt_5068e 29 = .ok (.iload_n 2, 1) := by decide +kernel
theorem dJ5_charAt_5068e_30 : decode cJ5_charAt_5068e 30 = .ok (.ifCond .ne 12, 3) := by decide +kernel
theorem dJ5_charAt_5068e_33 : decode cJ5_charAt_5068e 33 = .ok (.aload_n 3, 1) := by decide +kernel
theorem dJ5_charAt_5068e_34 : decode cJ5_charAt_5068e 34 = .ok (.iload_n 1, 1) := by decide +kernel
theorem dJ5_charAt_5068e_35 : decode cJ5_charAt_5068e 35 = .ok (.baload, 1) := by decide +kernel
theorem dJ5_charAt_5068e_36 : decode cJ5_charAt_5068e 36 = .ok (.sipush 255, 3) := by decide +kernel
theorem dJ5_charAt_5068e_39 : decode cJ5_charAt_5068e 39 = .ok (.iand, 1) := by decide +kernel
theorem dJ5_charAt_5068e_40 : decode cJ5_charAt_5068e 40 = .ok (.i2c, 1) := by decide +kernel
theorem dJ5_charAt_5068e_41 : decode cJ5_charAt_5068e 41 = .ok (.ireturn, 1) := by decide +kernel
theorem dJ5_charAt_5068e_42 : decode cJ5_charAt_5068e 42 = .ok (.aload_n 3, 1) := by decide +kernel
theorem dJ5_charAt_5068e_43 : decode cJ5_charAt_5068e 43 = .ok (.iload_n 1, 1) := by decide +kernel
theorem dJ5_charAt_5068e_44 : decode cJ5_charAt_5068e 44 = .ok (.invokestatic 148, 3) := by decide +kernel
theorem dJ5_charAt_5068e_47 : decode cJ5_charAt_5068e 47 = .ok (.ireturn, 1) := by decide +kernel
def xSiteSU (own : String) (idx : Nat) (y : MethodName) (bytes : ByteArray) (maxL : Nat) (rt : Option FieldType) (n : Nat) : Prop := Cond.methodLink own idx y ∈ gtbl ∧ Cond.sameMethod y.cls y.cls y.name y.desc ∈ gtbl ∧ Cond.superclass own y.cls ∈ gtbl ∧ Cond.instanceMethod y ∈ gtbl ∧ Cond.initialized y.cls ∈ gtbl ∧ Cond.code y bytes maxL rt ∈ gtbl ∧ (y.name ≠ "<init>" ∧ (parseMethodDescriptor y.desc).map (fun d => d.parameters.length) = some n) ∧ maxL ≤ 40
theorem vJ4_29 : xSiteSU RJ4 29 yJ5_append_cf1ce cJ5_append_cf1ce 3 (some (.object "java/lang/AbstractStringBuilder")) 1 := ⟨(tb_4 80 (by decide +kernel) rfl), (tb_8 229 (by decide +kernel) rfl), (tb_1 217 (by decide +kernel) rfl), (tb_4 81 (by decide +kernel) rfl), (tb_1 8 (by decide +kernel) rfl), (tb_4 82 (by decide +kernel) rfl), by decide +kernel, by decide⟩
theorem vJ4_50 : xSiteSU RJ4 50 yJ5_append_3fe6f cJ5_append_3fe6f 2 (some (.object "java/lang/AbstractStringBuilder")) 1 := ⟨(tb_4 24 (by decide +kernel) rfl), (tb_8 227 (by decide +kernel) rfl), (tb_1 217 (by decide +kernel) rfl), (tb_4 25 (by decide +kernel) rfl), (tb_1 8 (by decide +kernel) rfl), (tb_4 26 (by decide +kernel) rfl), by decide +kernel, by decide⟩
theorem vJ4_53 : xSiteSU RJ4 53 yJ5_append_c97b9 cJ5_append_c97b9 4 (some (.object "java/lang/AbstractStringBuilder")) 1 := ⟨(tb_4 127 (by decide +kernel) rfl), (tb_8 233 (by decide +kernel) rfl), (tb_1 217 (by decide +kernel) rfl), (tb_4 128 (by decide +kernel) rfl), (tb_1 8 (by decide +kernel) rfl), (tb_4 129 (by decide +kernel) rfl), by decide +kernel, by decide⟩
theorem vJ4_329 : xSiteSU RJ4 329 yJ5_charAt_5068e cJ5_charAt_5068e 5 (some .char) 1 := ⟨(tb_4 159 (by decide +kernel) rfl), (tb_8 235 (by decide +kernel) rfl), (tb_1 217 (by decide +kernel) rfl), (tb_4 160 (by decide +kernel) rfl), (tb_1 8 (by decide +kernel) rfl), (tb_4 161 (by decide +kernel) rfl), by decide +kernel, by decide⟩
theorem vJ4_333 : xSiteSU RJ4 333 yJ5_setLength_d00df cJ5_setLength_d00df 2 none 1 := ⟨(tb_3 200 (by decide +kernel) rfl), (tb_8 224 (by decide +kernel) rfl), (tb_1 217 (by decide +kernel) rfl), (tb_3 201 (by decide +kernel) rfl), (tb_1 8 (by decide +kernel) rfl), (tb_3 202 (by decide +kernel) rfl), by decide +kernel, by decide⟩
theorem vJ4_343 : xSiteSU RJ4 343 yJ5_length_8abf5 cJ5_length_8abf5 1 (some .int) 0 := ⟨(tb_4 152 (by decide +kernel) rfl), (tb_8 234 (by decide +kernel) rfl), (tb_1 217 (by decide +kernel) rfl), (tb_4 153 (by decide +kernel) rfl), (tb_1 8 (by decide +kernel) rfl), (tb_4 154 (by decide +kernel) rfl), by decide +kernel, by decide⟩
theorem uJ5_100 : xSiteU RJ5 100 "java/lang/StringBuilder" yJ5_ensureCapacityInternal_d00df yJ5_ensureCapacityInternal_d00df cJ5_ensureCapacityInternal_d00df 3 none 1 := ⟨(tb_3 203 (by decide +kernel) rfl), (tb_8 225 (by decide +kernel) rfl), jx_in 0 rfl, (tb_3 205 (by decide +kernel) rfl), (tb_1 8 (by decide +kernel) rfl), (tb_3 206 (by decide +kernel) rfl), rfl, by decide +kernel, by decide⟩
theorem uJ5_104 : xSiteU RJ5 104 "java/lang/StringBuilder" yJ5_newCapacity_0f7a4 yJ5_newCapacity_0f7a4 cJ5_newCapacity_0f7a4 6 (some .int) 1 := ⟨(tb_3 207 (by decide +kernel) rfl), (tb_8 226 (by decide +kernel) rfl), jx_in 1 rfl, (tb_3 209 (by decide +kernel) rfl), (tb_1 8 (by decide +kernel) rfl), (tb_3 210 (by decide +kernel) rfl), rfl, by decide +kernel, by decide⟩
theorem uJ5_83 : xSiteU RJ5 83 "java/lang/StringBuilder" yJ5_isLatin1_aae02 yJ5_isLatin1_aae02 cJ5_isLatin1_aae02 1 (some .boolean) 0 := ⟨(tb_3 234 (by decide +kernel) rfl), (tb_3 236 (by decide +kernel) rfl), (tb_3 237 (by decide +kernel) rfl), (tb_3 235 (by decide +kernel) rfl), (tb_1 8 (by decide +kernel) rfl), (tb_3 238 (by decide +kernel) rfl), rfl, by decide +kernel, by decide⟩
theorem uJ5_208 : xSiteU RJ5 208 "java/lang/StringBuilder" yJ5_putStringAt_47b60 yJ5_putStringAt_47b60 cJ5_putStringAt_47b60 3 none 2 := ⟨(tb_4 108 (by decide +kernel) rfl), (tb_8 231 (by decide +kernel) rfl), jx_in 2 rfl, (tb_4 110 (by decide +kernel) rfl), (tb_1 8 (by decide +kernel) rfl), (tb_4 111 (by decide +kernel) rfl), rfl, by decide +kernel, by decide⟩
theorem uJ5_397 : xSiteU RJ5 397 "java/lang/StringBuilder" yJ5_inflateIfNeededFor_a7421 yJ5_inflateIfNeededFor_a7421 cJ5_inflateIfNeededFor_a7421 2 none 1 := ⟨(tb_4 112 (by decide +kernel) rfl), (tb_8 232 (by decide +kernel) rfl), jx_in 3 rfl, (tb_4 114 (by decide +kernel) rfl), (tb_1 8 (by decide +kernel) rfl), (tb_4 115 (by decide +kernel) rfl), rfl, by decide +kernel, by decide⟩
theorem iJ7_copyOf_9075b : Cond.static yJ7_copyOf_9075b ∈ gtbl := (tb_3 223 (by decide +kernel) rfl)
theorem sJ5_108 : xSite RJ5 108 yJ7_copyOf_9075b cJ7_copyOf_9075b 3 (some (.array .byte)) 2 := ⟨(tb_3 222 (by decide +kernel) rfl), (tb_1 28 (by decide +kernel) rfl), (tb_3 224 (by decide +kernel) rfl), by decide +kernel, by decide⟩
theorem iJ8_newLength_cabcc : Cond.static yJ8_newLength_cabcc ∈ gtbl := (tb_3 212 (by decide +kernel) rfl)
theorem sJ5_114 : xSite RJ5 114 yJ8_newLength_cabcc cJ8_newLength_cabcc 4 (some .int) 3 := ⟨(tb_3 211 (by decide +kernel) rfl), (tb_1 27 (by decide +kernel) rfl), (tb_3 213 (by decide +kernel) rfl), by decide +kernel, by decide⟩
theorem iJ1_canEncode_fc78d : Cond.static yJ1_canEncode_fc78d ∈ gtbl := (tb_4 28 (by decide +kernel) rfl)
theorem sJ5_191 : xSite RJ5 191 yJ1_canEncode_fc78d cJ1_canEncode_fc78d 1 (some .boolean) 1 := ⟨(tb_4 27 (by decide +kernel) rfl), (tb_1 20 (by decide +kernel) rfl), (tb_4 29 (by decide +kernel) rfl), by decide +kernel, by decide⟩
theorem iJ6_stringSize_0f7a4 : Cond.static yJ6_stringSize_0f7a4 ∈ gtbl := (tb_4 131 (by decide +kernel) rfl)
theorem sJ5_245 : xSite RJ5 245 yJ6_stringSize_0f7a4 cJ6_stringSize_0f7a4 4 (some .int) 1 := ⟨(tb_4 130 (by decide +kernel) rfl), (tb_1 30 (by decide +kernel) rfl), (tb_4 132 (by decide +kernel) rfl), by decide +kernel, by decide⟩
theorem iJ6_getChars_ba4f3 : Cond.static yJ6_getChars_ba4f3 ∈ gtbl := (tb_4 134 (by decide +kernel) rfl)
theorem sJ5_248 : xSite RJ5 248 yJ6_getChars_ba4f3 cJ6_getChars_ba4f3 7 (some .int) 3 := ⟨(tb_4 133 (by decide +kernel) rfl), (tb_1 30 (by decide +kernel) rfl), (tb_4 135 (by decide +kernel) rfl), by decide +kernel, by decide⟩
theorem kJ5_39 : Jvm.Cond.constant RJ5 39 2147483647 ∈ gtbl := (tb_3 221 (by decide +kernel) rfl)
theorem kJ8_200 : Jvm.Cond.constant RJ8 200 2147483639 ∈ gtbl := (tb_3 217 (by decide +kernel) rfl)
theorem tJ0_212 : Cond.methodLink RJ0 212 arraycopyName ∈ gtbl := (tb_4 121 (by decide +kernel) rfl)
theorem tJ7_150 : Cond.methodLink RJ7 150 arraycopyName ∈ gtbl := (tb_3 233 (by decide +kernel) rfl)
theorem fJ5_15 : xFld RJ5 15 0 0 4 (.array .byte) false := ⟨RJ4, TJ4, tyJ4, rfl, inJ4, tyJ4_ok, nmJ4, by decide, (tb_1 205 (by decide +kernel) rfl), rfl, rfl⟩
theorem fJ5_22 : xFld RJ5 22 0 1 4 (.byte) false := ⟨RJ4, TJ4, tyJ4, rfl, inJ4, tyJ4_ok, nmJ4, by decide, (tb_1 206 (by decide +kernel) rfl), rfl, rfl⟩
theorem fJ5_73 : xFld RJ5 73 0 2 4 (.boolean) false := ⟨RJ4, TJ4, tyJ4, rfl, inJ4, tyJ4_ok, nmJ4, by decide, (tb_1 207 (by decide +kernel) rfl), rfl, rfl⟩
theorem fJ5_79 : xFld RJ5 79 0 3 4 (.int) false := ⟨RJ4, TJ4, tyJ4, rfl, inJ4, tyJ4_ok, nmJ4, by decide, (tb_1 208 (by decide +kernel) rfl), rfl, rfl⟩
theorem tJ5_138 : Cond.methodLink RJ5 138 Lib.Math.min.name ∈ gtbl := (tb_4 162 (by decide +kernel) rfl)
theorem tJ7_304 : Cond.methodLink RJ7 304 Lib.Math.min.name ∈ gtbl := (tb_3 232 (by decide +kernel) rfl)
theorem tJ8_194 : Cond.methodLink RJ8 194 Lib.Math.max.name ∈ gtbl := (tb_3 214 (by decide +kernel) rfl)
theorem zJ5_18 : Cond.fieldLink RJ5 18 "java/lang/String" "COMPACT_STRINGS" "Z" ∈ gtbl := (tb_1 196 (by decide +kernel) rfl)
theorem zJ6_83 : Cond.fieldLink RJ6 83 "java/lang/Integer" "DigitOnes" "[B" ∈ gtbl := (tb_4 136 (by decide +kernel) rfl)
theorem zJ6_87 : Cond.fieldLink RJ6 87 "java/lang/Integer" "DigitTens" "[B" ∈ gtbl := (tb_4 138 (by decide +kernel) rfl)
theorem sJ5_144 : xSite RJ5 144 yJ0_checkIndex_df160 cJ0_checkIndex_df160 2 none 2 := ⟨(tb_4 163 (by decide +kernel) rfl), (tb_1 10 (by decide +kernel) rfl), (tb_4 71 (by decide +kernel) rfl), by decide +kernel, by decide⟩
theorem sJ5_32 : xSite RJ5 32 yJ0_length_8abf5 cJ0_length_8abf5 1 (some .int) 0 := ⟨(tb_4 99 (by decide +kernel) rfl), (tb_1 10 (by decide +kernel) rfl), (tb_4 102 (by decide +kernel) rfl), by decide +kernel, by decide⟩
theorem sJ5_40 : xSite RJ5 40 yJ0_coder_7d493 cJ0_coder_7d493 1 (some .byte) 0 := ⟨(tb_4 116 (by decide +kernel) rfl), (tb_1 10 (by decide +kernel) rfl), (tb_4 106 (by decide +kernel) rfl), by decide +kernel, by decide⟩
theorem iJ0_getBytes_840e7 : Cond.instanceMethod yJ0_getBytes_840e7 ∈ gtbl := (tb_4 118 (by decide +kernel) rfl)
theorem eJ0_getBytes_840e7 : Cond.selects yJ0_getBytes_840e7.cls yJ0_getBytes_840e7 yJ0_getBytes_840e7 ∈ gtbl := (tb_4 119 (by decide +kernel) rfl)
theorem sJ5_399 : xSite RJ5 399 yJ0_getBytes_840e7 cJ0_getBytes_840e7 4 none 3 := ⟨(tb_4 117 (by decide +kernel) rfl), (tb_1 10 (by decide +kernel) rfl), (tb_4 120 (by decide +kernel) rfl), by decide +kernel, by decide⟩
/-! rules: calls of the superclass's own method, copies of bytes -/
set_option maxHeartbeats 1000000 in
theorem r_callSU {own : String} {cc : ByteArray} {nL d mc ms : Nat} {yn : String} {ro : Nat → Nat} {J : JT} (g : xCtx own cc nL d mc ms yn ro J) {μ : Hp} {k n pc : Nat} {lv : List (Nat × Value)} {st : List Value} {idx maxL mc' ms' d' nA : Nat} {y : MethodName} {bytes : ByteArray} {rt : Option FieldType} {As : List Value} {Z : Option Value → Hp → Prop} (hsite : xSiteSU own idx y bytes maxL rt nA) {b ci N : Nat} {C : String} {T : u_T} (hcl : vwCl[ci]? = some (C, T, N)) (hs : hS μ b = some (ci + 4, N)) (hn : As.length = nA) (hW : (st.map fun v => v.category).sum ≤ 8) (hdg : decode cc pc = .ok (.invokespecial idx, 3)) (hd : d' + 1 ≤ d) (hk : k + mc' ≤ mc) (hns : n + ms' ≤ ms) (hc : xC d' y bytes maxL rt mc' ms' (.ref b :: As) μ ro Z) (kk : ∀ (r : Option Value) (μ' : Hp), Z r μ' → J μ' (k + mc') (n + ms') (pc + 3) lv (r.toList ++ st)) : J μ k n pc lv (As.reverse ++ .ref b :: st) := by
  obtain ⟨p, l, e, R, s, m, args, below, meth, c, D, cA, A0, Q, rfl, ⟨hx, hb, hml, hown, hts⟩, hK, hA, ⟨hRO, hNw⟩, hroom, hyn⟩ := g
  obtain ⟨hR1, hR2, hR3, hR4⟩ := hroom
  obtain ⟨hlk, hsm, hsup, hins, hini, hcode, hy, hmx⟩ := hsite
  intro L H locs ls ⟨hP, hD, hL1, hS1⟩ hl
  have hM := hc l D cA L H.size
  obtain ⟨j, hj⟩ := xget (cA := cA) (hL1 b _ hs)
  rw [cell_obj hs] at hj
  have hrcv := va_recv hK hP hcl hj
  have hG : GoodIn gtbl (va_wsSU own idx y (Cond.code y bytes maxL rt :: gtbl)) := by
    intro w hw
    rcases List.mem_append.mp hw with h | h
    · simp only [List.mem_cons, List.not_mem_nil, or_false] at h
      rcases h with h | h | h | h | h
      · rw [h]; exact gtbl_good _ hlk
      · rw [h]; exact gtbl_good _ hsm
      · rw [h]; exact gtbl_good _ hsup
      · rw [h]; exact gtbl_good _ hins
      · rw [h]; exact gtbl_good _ hini
    · exact gtbl_goodC hcode w h
  exact xgo (Z := Z) (a := #[]) (va_runSU (C := C) (As := As) (rest := st) (hK.1 ci _ hcl).2 ⟨hx, hb, hml, hown, hts⟩ hM (va_cwSU nA hts hG rfl rfl rfl hy ⟨by show d' + 1 ≤ R.frames; omega, by show 8 + (maxL + 11) + 64 * d' ≤ R.locals; omega⟩) ⟨xblind, hrcv, fun U hU hW9 => ⟨rfl, xpre hP hD hL1 hS1 hK hA hRO hNw hU hW9⟩⟩ rfl hn hl.1 rfl (lv_room hW) hdg ⟨by omega, by omega⟩) hD hS1 hA hl kk
theorem rowCellB {cA : Nat → ClassId} {μ : Hp} {a N : Nat} {f : Nat → Int32} (hs : hS μ a = some (1, N)) : cellOf cA (wRow μ a f) a = .inl (cA 1, N, .inl f) := by
  rw [cell_byte (show hS (wRow μ a f) a = _ from hs), show hI (wRow μ a f) a = f from va_up_self _ _ _]
set_option maxHeartbeats 1000000 in
theorem r_copyb {own : String} {cc : ByteArray} {nL d mc ms : Nat} {yn : String} {ro : Nat → Nat} {J : JT} (g : xCtx own cc nL d mc ms yn ro J) {μ : Hp} {k n pc : Nat} {lv : List (Nat × Value)} {st : List Value} {index a b N0 N1 : Nat} {sp dp m9 : Int32} (hlk : Cond.methodLink own index arraycopyName ∈ gtbl) (hd : 1 ≤ d) (hw : (st.map fun v => v.category).sum ≤ 8) (hs0 : hS μ a = some (1, N0)) (hs1 : hS μ b = some (1, N1)) (hc : xcpOK sp dp m9 N0 N1) (hfit : ∀ i, i < m9.toNatClampNeg → fits .byte (.int (hI μ a (sp.toNatClampNeg + i))) = true) (hdg : decode cc pc = .ok (.invokestatic index, 3)) (kk : J (wRow μ b (va_cpy (hI μ a) (hI μ b) sp.toNatClampNeg dp.toNatClampNeg m9.toNatClampNeg)) k n (pc + 3) lv st) : J μ k n pc lv (.int m9 :: .int dp :: .ref b :: .int sp :: .ref a :: st) := by
  obtain ⟨p, l, e, R, s, m, args, below, meth, c, D, cA, A0, Q, rfl, ⟨hx, hb, hml, hown, hts⟩, hK, hA, ⟨hRO, hNw⟩, hroom, hyn⟩ := g
  intro L H locs ls ⟨hP, hD, hL1, hS1⟩ hl
  obtain ⟨j, hj⟩ := xget (cA := cA) (hL1 a _ hs0)
  obtain ⟨j1, hj1⟩ := xget (cA := cA) (hL1 b _ hs1)
  have hj0 := hj1
  rw [cell_byte hs0] at hj
  rw [cell_byte hs1] at hj1
  obtain ⟨h1, h2, h3, h4, h5⟩ := hc
  have hwd : nativeFrameWords "java/lang/System" "arraycopy" 5 + 11 + 8 ≤ 64 := by decide +kernel
  refine va_copyi hx hb (hml.trans hl.1.symm) hown (hts _ hlk) (hts _ m_cpN) (hts _ m_cpS) (hts _ m_cpI) hK hP hD hS1 j j1 1 1 hj hj1 rfl rfl rfl h1 h2 h3 h4 h5 hfit (by omega) (by omega) hdg (fun H1 locs1 hP1 hD1 hS2 => ?_)
  rw [xset hD (hL1 b _ hs1) hj0 (cell_up wRow_ne (rowCellB hs1))] at hP1 hD1
  exact kk L H1 locs1 ls ⟨hP1, hD1, hL1, hS2⟩ hl
set_option maxHeartbeats 1000000 in
theorem r_copyT {own : String} {cc : ByteArray} {nL d mc ms : Nat} {yn : String} {ro : Nat → Nat} {J : JT} (g : xCtx own cc nL d mc ms yn ro J) {μ : Hp} {k n pc : Nat} {lv : List (Nat × Value)} {st : List Value} {index t b N0 N1 : Nat} {sp dp m9 : Int32} {fv : (Nat → Nat) → Nat → Value} (F : Nat → Int32) (hlk : Cond.methodLink own index arraycopyName ∈ gtbl) (hd : 1 ≤ d) (hw : (st.map fun v => v.category).sum ≤ 8) (ht : (FieldType.byte, t, N0, fv) ∈ roT) (hF : fv ro = fun j => .int (F j)) (hs1 : hS μ b = some (1, N1)) (hc : xcpOK sp dp m9 N0 N1) (hfit : ∀ i, i < m9.toNatClampNeg → fits .byte (.int (F (sp.toNatClampNeg + i))) = true) (hdg : decode cc pc = .ok (.invokestatic index, 3)) (kk : J (wRow μ b (va_cpy F (hI μ b) sp.toNatClampNeg dp.toNatClampNeg m9.toNatClampNeg)) k n (pc + 3) lv st) : J μ k n pc lv (.int m9 :: .int dp :: .ref b :: .int sp :: .ref (ro t) :: st) := by
  obtain ⟨p, l, e, R, s, m, args, below, meth, c, D, cA, A0, Q, rfl, ⟨hx, hb, hml, hown, hts⟩, hK, hA, ⟨hRO, hNw⟩, hroom, hyn⟩ := g
  intro L H locs ls ⟨hP, hD, hL1, hS1⟩ hl
  have hX := hRO.2.1 _ ht
  dsimp only at hX
  rw [hF] at hX
  obtain ⟨j1, hj1⟩ := xget (cA := cA) (hL1 b _ hs1)
  have hj0 := hj1
  rw [cell_byte hs1] at hj1
  obtain ⟨h1, h2, h3, h4, h5⟩ := hc
  have hwd : nativeFrameWords "java/lang/System" "arraycopy" 5 + 11 + 8 ≤ 64 := by decide +kernel
  refine vk_copyt hx hb (hml.trans hl.1.symm) hown (hts _ hlk) (hts _ m_cpN) (hts _ m_cpS) (hts _ m_cpI) hK hP hD hS1 hX j1 1 hj1 rfl h1 h2 h3 h4 h5 hfit (by omega) (by omega) hdg (fun H1 locs1 hP1 hD1 hS2 => ?_)
  rw [xset hD (hL1 b _ hs1) hj0 (cell_up wRow_ne (rowCellB hs1))] at hP1 hD1
  exact kk L H1 locs1 ls ⟨hP1, hD1, hL1, hS2⟩ hl
/-! numbers -/
theorem nIadd (a b : Nat) : nI (a + b) = nI a + nI b := Int32.ofNat_add a b
theorem nI_sub {a b : Nat} (h : b ≤ a) : nI a - nI b = nI (a - b) := by
  have e : nI a = nI (a - b) + nI b := by rw [← nIadd, Nat.sub_add_cancel h]
  rw [e, Int32.add_sub_cancel]
theorem nI_max {a b : Nat} (ha : a < 2 ^ 31) (hb : b < 2 ^ 31) : nI (max a b) = if nI a < nI b then nI b else nI a := by
  by_cases h : a < b
  · rw [if_pos (nI_lt h hb), Nat.max_eq_right (by omega)]
  · rw [if_neg (nI_nlt (by omega) ha), Nat.max_eq_left (by omega)]
theorem nI_min {a b : Nat} (ha : a < 2 ^ 31) (hb : b < 2 ^ 31) : nI (min a b) = if nI b < nI a then nI b else nI a := by
  by_cases h : b < a
  · rw [if_pos (nI_lt h ha), Nat.min_eq_right (by omega)]
  · rw [if_neg (nI_nlt (by omega) hb), Nat.min_eq_left (by omega)]
theorem shr00 (x : Int32) : x >>> ((0 : Int32) &&& 31) = x := by
  rw [show ((0 : Int32) &&& 31) = 0 from by decide]
  exact Int32.shiftRight_zero
theorem shl00 (x : Int32) : x <<< ((0 : Int32) &&& 31) = x := by
  rw [show ((0 : Int32) &&& 31) = 0 from by decide]
  exact Int32.shiftLeft_zero
