theorem dJx4a65c_size_8abf5_0 : decode cJx4a65c_size_8abf5 0 = .ok (.aload_n 0, 1) := by decide +kernel
theorem dJx4a65c_size_8abf5_1 : decode cJx4a65c_size_8abf5 1 = .ok (.getfield 48, 3) := by decide +kernel
theorem dJx4a65c_size_8abf5_4 : decode cJx4a65c_size_8abf5 4 = .ok (.ireturn, 1) := by decide +kernel
theorem dJ15_checkIndex_7cf53_0 : decode cJ15_checkIndex_7cf53 0 = .ok (.iload_n 0, 1) := by decide +kernel
theorem dJ15_checkIndex_7cf53_1 : decode cJ15_checkIndex_7cf53 1 = .ok (.iload_n 1, 1) := by decide +kernel
theorem dJ15_checkIndex_7cf53_2 : decode cJ15_checkIndex_7cf53 2 = .ok (.aconst_null, 1) := by decide +kernel
theorem dJ15_checkIndex_7cf53_3 : decode cJ15_checkIndex_7cf53 3 = .ok (.invokestatic 105, 3) := by decide +kernel
theorem dJ15_checkIndex_7cf53_6 : decode cJ15_checkIndex_7cf53 6 = .ok (.ireturn, 1) := by decide +kernel
theorem dJx4a65c_elementData_915e3_0 : decode cJx4a65c_elementData_915e3 0 = .ok (.aload_n 0, 1) := by decide +kernel
theorem dJx4a65c_elementData_915e3_1 : decode cJx4a65c_elementData_915e3 1 = .ok (.getfield 9, 3) := by decide +kernel
theorem dJx4a65c_elementData_915e3_4 : decode cJx4a65c_elementData_915e3 4 = .ok (.iload_n 1, 1) := by decide +kernel
theorem dJx4a65c_elementData_915e3_5 : decode cJx4a65c_elementData_915e3 5 = .ok (.aaload, 1) := by decide +kernel
theorem dJx4a65c_elementData_915e3_6 : decode cJx4a65c_elementData_915e3 6 = .ok (.areturn, 1) := by decide +kernel
theorem dJx4a65c_get_915e3_0 : decode cJx4a65c_get_915e3 0 = .ok (.iload_n 1, 1) := by decide +kernel
theorem dJx4a65c_get_915e3_1 : decode cJx4a65c_get_915e3 1 = .ok (.aload_n 0, 1) := by decide +kernel
theorem dJx4a65c_get_915e3_2 : decode cJx4a65c_get_915e3 2 = .ok (.getfield 48, 3) := by decide +kernel
theorem dJx4a65c_get_915e3_5 : decode cJx4a65c_get_915e3 5 = .ok (.invokestatic 118, 3) := by decide +kernel
theorem dJx4a65c_get_915e3_8 : decode cJx4a65c_get_915e3 8 = .ok (.pop, 1) := by decide +kernel
theorem dJx4a65c_get_915e3_9 : decode cJx4a65c_get_915e3 9 = .ok (.aload_n 0, 1) := by decide +kernel
theorem dJx4a65c_get_915e3_10 : decode cJx4a65c_get_915e3 10 = .ok (.iload_n 1, 1) := by decide +kernel
theorem dJx4a65c_get_915e3_11 : decode cJx4a65c_get_915e3 11 = .ok (.invokevirtual 123, 3) := by decide +kernel
theorem dJx4a65c_get_915e3_14 : decode cJx4a65c_get_915e3 14 = .ok (.areturn, 1) := by decide +kernel
theorem dX9_above_0 : decode cX9_above 0 = .ok (.iload_n 2, 1) := by decide +kernel
theorem dX9_above_1 : decode cX9_above 1 = .ok (.ifCond .ne 12, 3) := by decide +kernel
theorem dX9_above_4 : decode cX9_above 4 = .ok (.aload_n 0, 1) := by decide +kernel
theorem dX9_above_5 : decode cX9_above 5 = .ok (.getfield 24, 3) := by decide +kernel
theorem dX9_above_8 : decode cX9_above 8 = .ok (.newarray .boolean, 2) := by decide +kernel
theorem dX9_above_10 : decode cX9_above 10 = .ok (.goto 13, 3) := by decide +kernel
theorem dX9_above_13 : decode cX9_above 13 = .ok (.aload_n 1, 1) := by decide +kernel
theorem dX9_above_14 : decode cX9_above 14 = .ok (.iload_n 2, 1) := by decide +kernel
theorem dX9_above_15 : decode cX9_above 15 = .ok (.iconst 1, 1) := by decide +kernel
theorem dX9_above_16 : decode cX9_above 16 = .ok (.isub, 1) := by decide +kernel
theorem dX9_above_17 : decode cX9_above 17 = .ok (.invokevirtual 53, 3) := by decide +kernel
theorem dX9_above_20 : decode cX9_above 20 = .ok (.checkcast 46, 3) := by decide +kernel
theorem dX9_above_23 : decode cX9_above 23 = .ok (.areturn, 1) := by decide +kernel
theorem dJxa1e45_init_da8c8_0 : decode cJxa1e45_init_da8c8 0 = .ok (.aload_n 0, 1) := by decide +kernel
theorem dJxa1e45_init_da8c8_1 : decode cJxa1e45_init_da8c8 1 = .ok (.invokespecial 1, 3) := by decide +kernel
theorem dJxa1e45_init_da8c8_4 : decode cJxa1e45_init_da8c8 4 = .ok (.return_, 1) := by decide +kernel
theorem dJxc12de_init_da8c8_0 : decode cJxc12de_init_da8c8 0 = .ok (.aload_n 0, 1) := by decide +kernel
theorem dJxc12de_init_da8c8_1 : decode cJxc12de_init_da8c8 1 = .ok (.invokespecial 1, 3) := by decide +kernel
theorem dJxc12de_init_da8c8_4 : decode cJxc12de_init_da8c8 4 = .ok (.aload_n 0, 1) := by decide +kernel
theorem dJxc12de_init_da8c8_5 : decode cJxc12de_init_da8c8 5 = .ok (.iconst 0, 1) := by decide +kernel
theorem dJxc12de_init_da8c8_6 : decode cJxc12de_init_da8c8 6 = .ok (.putfield 7, 3) := by decide +kernel
theorem dJxc12de_init_da8c8_9 : decode cJxc12de_init_da8c8 9 = .ok (.return_, 1) := by decide +kernel
theorem dJx4a65c_init_da8c8_0 : decode cJx4a65c_init_da8c8 0 = .ok (.aload_n 0, 1) := by decide +kernel
theorem dJx4a65c_init_da8c8_1 : decode cJx4a65c_init_da8c8 1 = .ok (.invokespecial 1, 3) := by decide +kernel
theorem dJx4a65c_init_da8c8_4 : decode cJx4a65c_init_da8c8 4 = .ok (.aload_n 0, 1) := by decide +kernel
theorem dJx4a65c_init_da8c8_5 : decode cJx4a65c_init_da8c8 5 = .ok (.getstatic 39, 3) := by decide +kernel
theorem dJx4a65c_init_da8c8_8 : decode cJx4a65c_init_da8c8 8 = .ok (.putfield 9, 3) := by decide +kernel
theorem dJx4a65c_init_da8c8_11 : decode cJx4a65c_init_da8c8 11 = .ok (.return_, 1) := by decide +kernel
theorem dL_find_0 : decode cL_find 0 = .ok (.iload_n 1, 1) := by decide +kernel
theorem dL_find_1 : decode cL_find 1 = .ok (.iconst 1, 1) := by decide +kernel
theorem dL_find_2 : decode cL_find 2 = .ok (.iadd, 1) := by decide +kernel
theorem dL_find_3 : decode cL_find 3 = .ok (.istore_n 3, 1) := by decide +kernel
theorem dL_find_4 : decode cL_find 4 = .ok (.iload_n 3, 1) := by decide +kernel
theorem dL_find_5 : decode cL_find 5 = .ok (.aload_n 0, 1) := by decide +kernel
theorem dL_find_6 : decode cL_find 6 = .ok (.arraylength, 1) := by decide +kernel
theorem dL_find_7 : decode cL_find 7 = .ok (.if_icmp .ge 18, 3) := by decide +kernel
theorem dL_find_10 : decode cL_find 10 = .ok (.aload_n 0, 1) := by decide +kernel
theorem dL_find_11 : decode cL_find 11 = .ok (.iload_n 3, 1) := by decide +kernel
theorem dL_find_12 : decode cL_find 12 = .ok (.baload, 1) := by decide +kernel
theorem dL_find_13 : decode cL_find 13 = .ok (.iload_n 2, 1) := by decide +kernel
theorem dL_find_14 : decode cL_find 14 = .ok (.if_icmp .ne 5, 3) := by decide +kernel
theorem dL_find_17 : decode cL_find 17 = .ok (.iload_n 3, 1) := by decide +kernel
theorem dL_find_18 : decode cL_find 18 = .ok (.ireturn, 1) := by decide +kernel
theorem dL_find_19 : decode cL_find 19 = .ok (.iinc 3 1, 3) := by decide +kernel
theorem dL_find_22 : decode cL_find 22 = .ok (.goto (-18), 3) := by decide +kernel
theorem dL_find_25 : decode cL_find 25 = .ok (.aload_n 0, 1) := by decide +kernel
theorem dL_find_26 : decode cL_find 26 = .ok (.arraylength, 1) := by decide +kernel
theorem dL_find_27 : decode cL_find 27 = .ok (.ireturn, 1) := by decide +kernel
theorem dJ6_valueOf_2dffe_0 : decode cJ6_valueOf_2dffe 0 = .ok (.iload_n 0, 1) := by decide +kernel
theorem dJ6_valueOf_2dffe_1 : decode cJ6_valueOf_2dffe 1 = .ok (.bipush (-128), 2) := by decide +kernel
theorem dJ6_valueOf_2dffe_3 : decode cJ6_valueOf_2dffe 3 = .ok (.if_icmp .lt 20, 3) := by decide +kernel
theorem dJ6_valueOf_2dffe_6 : decode cJ6_valueOf_2dffe 6 = .ok (.iload_n 0, 1) := by decide +kernel
theorem dJ6_valueOf_2dffe_7 : decode cJ6_valueOf_2dffe 7 = .ok (.getstatic 191, 3) := by decide +kernel
theorem dJ6_valueOf_2dffe_10 : decode cJ6_valueOf_2dffe 10 = .ok (.if_icmp .gt 13, 3) := by decide +kernel
theorem dJ6_valueOf_2dffe_13 : decode cJ6_valueOf_2dffe 13 = .ok (.getstatic 195, 3) := by decide +kernel
theorem dJ6_valueOf_2dffe_16 : decode cJ6_valueOf_2dffe 16 = .ok (.iload_n 0, 1) := by decide +kernel
theorem dJ6_valueOf_2dffe_17 : decode cJ6_valueOf_2dffe 17 = .ok (.sipush 128, 3) := by decide +kernel
theorem dJ6_valueOf_2dffe_20 : decode cJ6_valueOf_2dffe 20 = .ok (.iadd, 1) := by decide +kernel
theorem dJ6_valueOf_2dffe_21 : decode cJ6_valueOf_2dffe 21 = .ok (.aaload, 1) := by decide +kernel
theorem dJ6_valueOf_2dffe_22 : decode cJ6_valueOf_2dffe 22 = .ok (.areturn, 1) := by decide +kernel
theorem dJ6_valueOf_2dffe_23 : decode cJ6_valueOf_2dffe 23 = .ok (.new 1, 3) := by decide +kernel
theorem dJ6_valueOf_2dffe_26 : decode cJ6_valueOf_2dffe 26 = .ok (.dup, 1) := by decide +kernel
theorem dJ6_valueOf_2dffe_27 : decode cJ6_valueOf_2dffe 27 = .ok (.iload_n 0, 1) := by decide +kernel
theorem dJ6_valueOf_2dffe_28 : decode cJ6_valueOf_2dffe 28 = .ok (.invokespecial 199, 3) := by decide +kernel
theorem dJ6_valueOf_2dffe_31 : decode cJ6_valueOf_2dffe 31 = .ok (.areturn, 1) := by decide +kernel
theorem dJ8_newLength_cabcc_0 : decode cJ8_newLength_cabcc 0 = .ok (.iload_n 0, 1) := by decide +kernel
theorem dJ8_newLength_cabcc_1 : decode cJ8_newLength_cabcc 1 = .ok (.iload_n 1, 1) := by decide +kernel
theorem dJ8_newLength_cabcc_2 : decode cJ8_newLength_cabcc 2 = .ok (.iload_n 2, 1) := by decide +kernel
theorem dJ8_newLength_cabcc_3 : decode cJ8_newLength_cabcc 3 = .ok (.invokestatic 194, 3) := by decide +kernel
theorem dJ8_newLength_cabcc_6 : decode cJ8_newLength_cabcc 6 = .ok (.iadd, 1) := by decide +kernel
theorem dJ8_newLength_cabcc_7 : decode cJ8_newLength_cabcc 7 = .ok (.istore_n 3, 1) := by decide +kernel
theorem dJ8_newLength_cabcc_8 : decode cJ8_newLength_cabcc 8 = .ok (.iconst 0, 1) := by decide +kernel
theorem dJ8_newLength_cabcc_9 : decode cJ8_newLength_cabcc 9 = .ok (.iload_n 3, 1) := by decide +kernel
theorem dJ8_newLength_cabcc_10 : decode cJ8_newLength_cabcc 10 = .ok (.if_icmp .ge 11, 3) := by decide +kernel
theorem dJ8_newLength_cabcc_13 : decode cJ8_newLength_cabcc 13 = .ok (.iload_n 3, 1) := by decide +kernel
theorem dJ8_newLength_cabcc_14 : decode cJ8_newLength_cabcc 14 = .ok (.ldc 200, 2) := by decide +kernel
theorem dJ8_newLength_cabcc_16 : decode cJ8_newLength_cabcc 16 = .ok (.if_icmp .gt 5, 3) := by decide +kernel
theorem dJ8_newLength_cabcc_19 : decode cJ8_newLength_cabcc 19 = .ok (.iload_n 3, 1) := by decide +kernel
theorem dJ8_newLength_cabcc_20 : decode cJ8_newLength_cabcc 20 = .ok (.ireturn, 1) := by decide +kernel
theorem dJ8_newLength_cabcc_21 : decode cJ8_newLength_cabcc 21 = .ok (.iload_n 0, 1) := by decide +kernel
theorem dJ8_newLength_cabcc_22 : decode cJ8_newLength_cabcc 22 = .ok (.iload_n 1, 1) := by decide +kernel
theorem dJ8_newLength_cabcc_23 : decode cJ8_newLength_cabcc 23 = .ok (.invokestatic 201, 3) := by decide +kernel
theorem dJ8_newLength_cabcc_26 : decode cJ8_newLength_cabcc 26 = .ok (.ireturn, 1) := by decide +kernel
theorem dJ7_copyOf_6403c_0 : decode cJ7_copyOf_6403c 0 = .ok (.aload_n 2, 1) := by decide +kernel
theorem dJ7_copyOf_6403c_1 : decode cJ7_copyOf_6403c 1 = .ok (.ldc 110, 2) := by decide +kernel
theorem dJ7_copyOf_6403c_3 : decode cJ7_copyOf_6403c 3 = .ok (.if_acmp .ne 10, 3) := by decide +kernel
theorem dJ7_copyOf_6403c_6 : decode cJ7_copyOf_6403c 6 = .ok (.iload_n 1, 1) := by decide +kernel
theorem dJ7_copyOf_6403c_7 : decode cJ7_copyOf_6403c 7 = .ok (.anewarray 2, 3) := by decide +kernel
theorem dJ7_copyOf_6403c_10 : decode cJ7_copyOf_6403c 10 = .ok (.goto 14, 3) := by decide +kernel
theorem dJ7_copyOf_6403c_13 : decode cJ7_copyOf_6403c 13 = .ok (.aload_n 2, 1) := by decide +kernel
theorem dJ7_copyOf_6403c_14 : decode cJ7_copyOf_6403c 14 = .ok (.invokevirtual 90, 3) := by decide +kernel
theorem dJ7_copyOf_6403c_17 : decode cJ7_copyOf_6403c 17 = .ok (.iload_n 1, 1) := by decide +kernel
theorem dJ7_copyOf_6403c_18 : decode cJ7_copyOf_6403c 18 = .ok (.invokestatic 95, 3) := by decide +kernel
theorem dJ7_copyOf_6403c_21 : decode cJ7_copyOf_6403c 21 = .ok (.checkcast 110, 3) := by decide +kernel
theorem dJ7_copyOf_6403c_24 : decode cJ7_copyOf_6403c 24 = .ok (.astore_n 3, 1) := by decide +kernel
theorem dJ7_copyOf_6403c_25 : decode cJ7_copyOf_6403c 25 = .ok (.aload_n 0, 1) := by decide +kernel
theorem dJ7_copyOf_6403c_26 : decode cJ7_copyOf_6403c 26 = .ok (.iconst 0, 1) := by decide +kernel
theorem dJ7_copyOf_6403c_27 : decode cJ7_copyOf_6403c 27 = .ok (.aload_n 3, 1) := by decide +kernel
theorem dJ7_copyOf_6403c_28 : decode cJ7_copyOf_6403c 28 = .ok (.iconst 0, 1) := by decide +kernel
theorem dJ7_copyOf_6403c_29 : decode cJ7_copyOf_6403c 29 = .ok (.aload_n 0, 1) := by decide +kernel
theorem dJ7_copyOf_6403c_30 : decode cJ7_copyOf_6403c 30 = .ok (.arraylength, 1) := by decide +kernel
theorem dJ7_copyOf_6403c_31 : decode cJ7_copyOf_6403c 31 = .ok (.iload_n 1, 1) := by decide +kernel
theorem dJ7_copyOf_6403c_32 : decode cJ7_copyOf_6403c 32 = .ok (.invokestatic 304, 3) := by decide +kernel
theorem dJ7_copyOf_6403c_35 : decode cJ7_copyOf_6403c 35 = .ok (.invokestatic 150, 3) := by decide +kernel
theorem dJ7_copyOf_6403c_38 : decode cJ7_copyOf_6403c 38 = .ok (.aload_n 3, 1) := by decide +kernel
theorem dJ7_copyOf_6403c_39 : decode cJ7_copyOf_6403c 39 = .ok (.areturn, 1) := by decide +kernel
theorem dJ7_copyOf_1904c_0 : decode cJ7_copyOf_1904c 0 = .ok (.aload_n 0, 1) := by decide +kernel
theorem dJ7_copyOf_1904c_1 : decode cJ7_copyOf_1904c 1 = .ok (.iload_n 1, 1) := by decide +kernel
theorem dJ7_copyOf_1904c_2 : decode cJ7_copyOf_1904c 2 = .ok (.aload_n 0, 1) := by decide +kernel
theorem dJ7_copyOf_1904c_3 : decode cJ7_copyOf_1904c 3 = .ok (.invokevirtual 86, 3) := by decide +kernel
theorem dJ7_copyOf_1904c_6 : decode cJ7_copyOf_1904c 6 = .ok (.invokestatic 300, 3) := by decide +kernel
theorem dJ7_copyOf_1904c_9 : decode cJ7_copyOf_1904c 9 = .ok (.areturn, 1) := by decide +kernel
theorem dJx4a65c_grow_92f84_0 : decode cJx4a65c_grow_92f84 0 = .ok (.aload_n 0, 1) := by decide +kernel
theorem dJx4a65c_grow_92f84_1 : decode cJx4a65c_grow_92f84 1 = .ok (.getfield 9, 3) := by decide +kernel
theorem dJx4a65c_grow_92f84_4 : decode cJx4a65c_grow_92f84 4 = .ok (.arraylength, 1) := by decide +kernel
theorem dJx4a65c_grow_92f84_5 : decode cJx4a65c_grow_92f84 5 = .ok (.istore_n 2, 1) := by decide +kernel
theorem dJx4a65c_grow_92f84_6 : decode cJx4a65c_grow_92f84 6 = .ok (.iload_n 2, 1) := by decide +kernel
theorem dJx4a65c_grow_92f84_7 : decode cJx4a65c_grow_92f84 7 = .ok (.ifCond .gt 13, 3) := by decide +kernel
theorem dJx4a65c_grow_92f84_10 : decode cJx4a65c_grow_92f84 10 = .ok (.aload_n 0, 1) := by decide +kernel
theorem dJx4a65c_grow_92f84_11 : decode cJx4a65c_grow_92f84 11 = .ok (.getfield 9, 3) := by decide +kernel
theorem dJx4a65c_grow_92f84_14 : decode cJx4a65c_grow_92f84 14 = .ok (.getstatic 39, 3) := by decide +kernel
theorem dJx4a65c_grow_92f84_17 : decode cJx4a65c_grow_92f84 17 = .ok (.if_acmp .eq 28, 3) := by decide +kernel
theorem dJx4a65c_grow_92f84_20 : decode cJx4a65c_grow_92f84 20 = .ok (.iload_n 2, 1) := by decide +kernel
theorem dJx4a65c_grow_92f84_21 : decode cJx4a65c_grow_92f84 21 = .ok (.iload_n 1, 1) := by decide +kernel
theorem dJx4a65c_grow_92f84_22 : decode cJx4a65c_grow_92f84 22 = .ok (.iload_n 2, 1) := by decide +kernel
theorem dJx4a65c_grow_92f84_23 : decode cJx4a65c_grow_92f84 23 = .ok (.isub, 1) := by decide +kernel
theorem dJx4a65c_grow_92f84_24 : decode cJx4a65c_grow_92f84 24 = .ok (.iload_n 2, 1) := by decide +kernel
theorem dJx4a65c_grow_92f84_25 : decode cJx4a65c_grow_92f84 25 = .ok (.iconst 1, 1) := by decide +kernel
theorem dJx4a65c_grow_92f84_26 : decode cJx4a65c_grow_92f84 26 = .ok (.ishr, 1) := by decide +kernel
theorem dJx4a65c_grow_92f84_27 : decode cJx4a65c_grow_92f84 27 = .ok (.invokestatic 73, 3) := by decide +kernel
theorem dJx4a65c_grow_92f84_30 : decode cJx4a65c_grow_92f84 30 = .ok (.istore_n 3, 1) := by decide +kernel
theorem dJx4a65c_grow_92f84_31 : decode cJx4a65c_grow_92f84 31 = .ok (.aload_n 0, 1) := by decide +kernel
theorem dJx4a65c_grow_92f84_32 : decode cJx4a65c_grow_92f84 32 = .ok (.aload_n 0, 1) := by decide +kernel
theorem dJx4a65c_grow_92f84_33 : decode cJx4a65c_grow_92f84 33 = .ok (.getfield 9, 3) := by decide +kernel
theorem dJx4a65c_grow_92f84_36 : decode cJx4a65c_grow_92f84 36 = .ok (.iload_n 3, 1) := by decide +kernel
theorem dJx4a65c_grow_92f84_37 : decode cJx4a65c_grow_92f84 37 = .ok (.invokestatic 66, 3) := by decide +kernel
theorem dJx4a65c_grow_92f84_40 : decode cJx4a65c_grow_92f84 40 = .ok (.dup_x1, 1) := by decide +kernel
theorem dJx4a65c_grow_92f84_41 : decode cJx4a65c_grow_92f84 41 = .ok (.putfield 9, 3) := by decide +kernel
theorem dJx4a65c_grow_92f84_44 : decode cJx4a65c_grow_92f84 44 = .ok (.areturn, 1) := by decide +kernel
theorem dJx4a65c_grow_92f84_45 : decode cJx4a65c_grow_92f84 45 = .ok (.aload_n 0, 1) := by decide +kernel
theorem dJx4a65c_grow_92f84_46 : decode cJx4a65c_grow_92f84 46 = .ok (.bipush 10, 2) := by decide +kernel
theorem dJx4a65c_grow_92f84_48 : decode cJx4a65c_grow_92f84 48 = .ok (.iload_n 1, 1) := by decide +kernel
theorem dJx4a65c_grow_92f84_49 : decode cJx4a65c_grow_92f84 49 = .ok (.invokestatic 79, 3) := by decide +kernel
theorem dJx4a65c_grow_92f84_52 : decode cJx4a65c_grow_92f84 52 = .ok (.anewarray 7, 3) := by decide +kernel
theorem dJx4a65c_grow_92f84_55 : decode cJx4a65c_grow_92f84 55 = .ok (.dup_x1, 1) := by decide +kernel
theorem dJx4a65c_grow_92f84_56 : decode cJx4a65c_grow_92f84 56 = .ok (.putfield 9, 3) := by decide +kernel
theorem dJx4a65c_grow_92f84_59 : decode cJx4a65c_grow_92f84 59 = .ok (.areturn, 1) := by decide +kernel
theorem dJx4a65c_grow_d5877_0 : decode cJx4a65c_grow_d5877 0 = .ok (.aload_n 0, 1) := by decide +kernel
theorem dJx4a65c_grow_d5877_1 : decode cJx4a65c_grow_d5877 1 = .ok (.aload_n 0, 1) := by decide +kernel
theorem dJx4a65c_grow_d5877_2 : decode cJx4a65c_grow_d5877 2 = .ok (.getfield 48, 3) := by decide +kernel
theorem dJx4a65c_grow_d5877_5 : decode cJx4a65c_grow_d5877 5 = .ok (.iconst 1, 1) := by decide +kernel
theorem dJx4a65c_grow_d5877_6 : decode cJx4a65c_grow_d5877 6 = .ok (.iadd, 1) := by decide +kernel
theorem dJx4a65c_grow_d5877_7 : decode cJx4a65c_grow_d5877 7 = .ok (.invokevirtual 69, 3) := by decide +kernel
theorem dJx4a65c_grow_d5877_10 : decode cJx4a65c_grow_d5877 10 = .ok (.areturn, 1) := by decide +kernel
theorem dJx4a65c_add_72be8_0 : decode cJx4a65c_add_72be8 0 = .ok (.iload_n 3, 1) := by decide +kernel
theorem dJx4a65c_add_72be8_1 : decode cJx4a65c_add_72be8 1 = .ok (.aload_n 2, 1) := by decide +kernel
theorem dJx4a65c_add_72be8_2 : decode cJx4a65c_add_72be8 2 = .ok (.arraylength, 1) := by decide +kernel
theorem dJx4a65c_add_72be8_3 : decode cJx4a65c_add_72be8 3 = .ok (.if_icmp .ne 8, 3) := by decide +kernel
theorem dJx4a65c_add_72be8_6 : decode cJx4a65c_add_72be8 6 = .ok (.aload_n 0, 1) := by decide +kernel
theorem dJx4a65c_add_72be8_7 : decode cJx4a65c_add_72be8 7 = .ok (.invokevirtual 129, 3) := by decide +kernel
theorem dJx4a65c_add_72be8_10 : decode cJx4a65c_add_72be8 10 = .ok (.astore_n 2, 1) := by decide +kernel
theorem dJx4a65c_add_72be8_11 : decode cJx4a65c_add_72be8 11 = .ok (.aload_n 2, 1) := by decide +kernel
theorem dJx4a65c_add_72be8_12 : decode cJx4a65c_add_72be8 12 = .ok (.iload_n 3, 1) := by decide +kernel
theorem dJx4a65c_add_72be8_13 : decode cJx4a65c_add_72be8 13 = .ok (.aload_n 1, 1) := by decide +kernel
theorem dJx4a65c_add_72be8_14 : decode cJx4a65c_add_72be8 14 = .ok (.aastore, 1) := by decide +kernel
theorem dJx4a65c_add_72be8_15 : decode cJx4a65c_add_72be8 15 = .ok (.aload_n 0, 1) := by decide +kernel
theorem dJx4a65c_add_72be8_16 : decode cJx4a65c_add_72be8 16 = .ok (.iload_n 3, 1) := by decide +kernel
theorem dJx4a65c_add_72be8_17 : decode cJx4a65c_add_72be8 17 = .ok (.iconst 1, 1) := by decide +kernel
theorem dJx4a65c_add_72be8_18 : decode cJx4a65c_add_72be8 18 = .ok (.iadd, 1) := by decide +kernel
theorem dJx4a65c_add_72be8_19 : decode cJx4a65c_add_72be8 19 = .ok (.putfield 48, 3) := by decide +kernel
theorem dJx4a65c_add_72be8_22 : decode cJx4a65c_add_72be8 22 = .ok (.return_, 1) := by decide +kernel
theorem dJx4a65c_add_9ea2d_0 : decode cJx4a65c_add_9ea2d 0 = .ok (.aload_n 0, 1) := by decide +kernel
theorem dJx4a65c_add_9ea2d_1 : decode cJx4a65c_add_9ea2d 1 = .ok (.dup, 1) := by decide +kernel
theorem dJx4a65c_add_9ea2d_2 : decode cJx4a65c_add_9ea2d 2 = .ok (.getfield 63, 3) := by decide +kernel
theorem dJx4a65c_add_9ea2d_5 : decode cJx4a65c_add_9ea2d 5 = .ok (.iconst 1, 1) := by decide +kernel
theorem dJx4a65c_add_9ea2d_6 : decode cJx4a65c_add_9ea2d 6 = .ok (.iadd, 1) := by decide +kernel
theorem dJx4a65c_add_9ea2d_7 : decode cJx4a65c_add_9ea2d 7 = .ok (.putfield 63, 3) := by decide +kernel
theorem dJx4a65c_add_9ea2d_10 : decode cJx4a65c_add_9ea2d 10 = .ok (.aload_n 0, 1) := by decide +kernel
theorem dJx4a65c_add_9ea2d_11 : decode cJx4a65c_add_9ea2d 11 = .ok (.aload_n 1, 1) := by decide +kernel
theorem dJx4a65c_add_9ea2d_12 : decode cJx4a65c_add_9ea2d 12 = .ok (.aload_n 0, 1) := by decide +kernel
theorem dJx4a65c_add_9ea2d_13 : decode cJx4a65c_add_9ea2d 13 = .ok (.getfield 9, 3) := by decide +kernel
theorem dJx4a65c_add_9ea2d_16 : decode cJx4a65c_add_9ea2d 16 = .ok (.aload_n 0, 1) := by decide +kernel
theorem dJx4a65c_add_9ea2d_17 : decode cJx4a65c_add_9ea2d 17 = .ok (.getfield 48, 3) := by decide +kernel
theorem dJx4a65c_add_9ea2d_20 : decode cJx4a65c_add_9ea2d 20 = .ok (.invokevirtual 131, 3) := by decide +kernel
theorem dJx4a65c_add_9ea2d_23 : decode cJx4a65c_add_9ea2d 23 = .ok (.iconst 1, 1) := by decide +kernel
theorem dJx4a65c_add_9ea2d_24 : decode cJx4a65c_add_9ea2d 24 = .ok (.ireturn, 1) := by decide +kernel
theorem dL_changes_0 : decode cL_changes 0 = .ok (.new 8, 3) := by decide +kernel
theorem dL_changes_3 : decode cL_changes 3 = .ok (.dup, 1) := by decide +kernel
theorem dL_changes_4 : decode cL_changes 4 = .ok (.invokespecial 10, 3) := by decide +kernel
theorem dL_changes_7 : decode cL_changes 7 = .ok (.astore_n 1, 1) := by decide +kernel
theorem dL_changes_8 : decode cL_changes 8 = .ok (.iconst 0, 1) := by decide +kernel
theorem dL_changes_9 : decode cL_changes 9 = .ok (.istore_n 2, 1) := by decide +kernel
theorem dL_changes_10 : decode cL_changes 10 = .ok (.iconst 0, 1) := by decide +kernel
theorem dL_changes_11 : decode cL_changes 11 = .ok (.istore_n 3, 1) := by decide +kernel
theorem dL_changes_12 : decode cL_changes 12 = .ok (.iload_n 3, 1) := by decide +kernel
theorem dL_changes_13 : decode cL_changes 13 = .ok (.aload_n 0, 1) := by decide +kernel
theorem dL_changes_14 : decode cL_changes 14 = .ok (.arraylength, 1) := by decide +kernel
theorem dL_changes_15 : decode cL_changes 15 = .ok (.if_icmp .ge 29, 3) := by decide +kernel
theorem dL_changes_18 : decode cL_changes 18 = .ok (.aload_n 0, 1) := by decide +kernel
theorem dL_changes_19 : decode cL_changes 19 = .ok (.iload_n 3, 1) := by decide +kernel
theorem dL_changes_20 : decode cL_changes 20 = .ok (.baload, 1) := by decide +kernel
theorem dL_changes_21 : decode cL_changes 21 = .ok (.iload_n 2, 1) := by decide +kernel
theorem dL_changes_22 : decode cL_changes 22 = .ok (.if_icmp .eq 12, 3) := by decide +kernel
theorem dL_changes_25 : decode cL_changes 25 = .ok (.aload_n 1, 1) := by decide +kernel
theorem dL_changes_26 : decode cL_changes 26 = .ok (.iload_n 3, 1) := by decide +kernel
theorem dL_changes_27 : decode cL_changes 27 = .ok (.invokestatic 11, 3) := by decide +kernel
theorem dL_changes_30 : decode cL_changes 30 = .ok (.invokevirtual 17, 3) := by decide +kernel
theorem dL_changes_33 : decode cL_changes 33 = .ok (.pop, 1) := by decide +kernel
theorem dL_changes_34 : decode cL_changes 34 = .ok (.aload_n 0, 1) := by decide +kernel
theorem dL_changes_35 : decode cL_changes 35 = .ok (.iload_n 3, 1) := by decide +kernel
theorem dL_changes_36 : decode cL_changes 36 = .ok (.baload, 1) := by decide +kernel
theorem dL_changes_37 : decode cL_changes 37 = .ok (.istore_n 2, 1) := by decide +kernel
theorem dL_changes_38 : decode cL_changes 38 = .ok (.iinc 3 1, 3) := by decide +kernel
theorem dL_changes_41 : decode cL_changes 41 = .ok (.goto (-29), 3) := by decide +kernel
theorem dL_changes_44 : decode cL_changes 44 = .ok (.aload_n 1, 1) := by decide +kernel
theorem dL_changes_45 : decode cL_changes 45 = .ok (.areturn, 1) := by decide +kernel
theorem dJx35411_init_45d68_0 : decode cJx35411_init_45d68 0 = .ok (.aload_n 0, 1) := by decide +kernel
theorem dJx35411_init_45d68_1 : decode cJx35411_init_45d68 1 = .ok (.aload_n 1, 1) := by decide +kernel
theorem dJx35411_init_45d68_2 : decode cJx35411_init_45d68 2 = .ok (.putfield 1, 3) := by decide +kernel
theorem dJx35411_init_45d68_5 : decode cJx35411_init_45d68 5 = .ok (.aload_n 0, 1) := by decide +kernel
theorem dJx35411_init_45d68_6 : decode cJx35411_init_45d68 6 = .ok (.invokespecial 7, 3) := by decide +kernel
theorem dJx35411_init_45d68_9 : decode cJx35411_init_45d68 9 = .ok (.aload_n 0, 1) := by decide +kernel
theorem dJx35411_init_45d68_10 : decode cJx35411_init_45d68 10 = .ok (.iconst (-1), 1) := by decide +kernel
theorem dJx35411_init_45d68_11 : decode cJx35411_init_45d68 11 = .ok (.putfield 13, 3) := by decide +kernel
theorem dJx35411_init_45d68_14 : decode cJx35411_init_45d68 14 = .ok (.aload_n 0, 1) := by decide +kernel
theorem dJx35411_init_45d68_15 : decode cJx35411_init_45d68 15 = .ok (.aload_n 0, 1) := by decide +kernel
theorem dJx35411_init_45d68_16 : decode cJx35411_init_45d68 16 = .ok (.getfield 1, 3) := by decide +kernel
theorem dJx35411_init_45d68_19 : decode cJx35411_init_45d68 19 = .ok (.getfield 17, 3) := by decide +kernel
theorem dJx35411_init_45d68_22 : decode cJx35411_init_45d68 22 = .ok (.putfield 22, 3) := by decide +kernel
theorem dJx35411_init_45d68_25 : decode cJx35411_init_45d68 25 = .ok (.return_, 1) := by decide +kernel
theorem dJx4a65c_iterator_32c93_0 : decode cJx4a65c_iterator_32c93 0 = .ok (.new 267, 3) := by decide +kernel
theorem dJx4a65c_iterator_32c93_3 : decode cJx4a65c_iterator_32c93 3 = .ok (.dup, 1) := by decide +kernel
theorem dJx4a65c_iterator_32c93_4 : decode cJx4a65c_iterator_32c93 4 = .ok (.aload_n 0, 1) := by decide +kernel
theorem dJx4a65c_iterator_32c93_5 : decode cJx4a65c_iterator_32c93 5 = .ok (.invokespecial 269, 3) := by decide +kernel
theorem dJx4a65c_iterator_32c93_8 : decode cJx4a65c_iterator_32c93 8 = .ok (.areturn, 1) := by decide +kernel
theorem dJx35411_hasNext_aae02_0 : decode cJx35411_hasNext_aae02 0 = .ok (.aload_n 0, 1) := by decide +kernel
theorem dJx35411_hasNext_aae02_1 : decode cJx35411_hasNext_aae02 1 = .ok (.getfield 25, 3) := by decide +kernel
theorem dJx35411_hasNext_aae02_4 : decode cJx35411_hasNext_aae02 4 = .ok (.aload_n 0, 1) := by decide +kernel
theorem dJx35411_hasNext_aae02_5 : decode cJx35411_hasNext_aae02 5 = .ok (.getfield 1, 3) := by decide +kernel
theorem dJx35411_hasNext_aae02_8 : decode cJx35411_hasNext_aae02 8 = .ok (.getfield 28, 3) := by decide +kernel
theorem dJx35411_hasNext_aae02_11 : decode cJx35411_hasNext_aae02 11 = .ok (.if_icmp .eq 7, 3) := by decide +kernel
theorem dJx35411_hasNext_aae02_14 : decode cJx35411_hasNext_aae02 14 = .ok (.iconst 1, 1) := by decide +kernel
theorem dJx35411_hasNext_aae02_15 : decode cJx35411_hasNext_aae02 15 = .ok (.goto 4, 3) := by decide +kernel
theorem dJx35411_hasNext_aae02_18 : decode cJx35411_hasNext_aae02 18 = .ok (.iconst 0, 1) := by decide +kernel
theorem dJx35411_hasNext_aae02_19 : decode cJx35411_hasNext_aae02 19 = .ok (.ireturn, 1) := by decide +kernel
theorem dJx35411_checkForComodification_da8c8_0 : decode cJx35411_checkForComodification_da8c8 0 = .ok (.aload_n 0, 1) := by decide +kernel
theorem dJx35411_checkForComodification_da8c8_1 : decode cJx35411_checkForComodification_da8c8 1 = .ok (.getfield 1, 3) := by decide +kernel
theorem dJx35411_checkForComodification_da8c8_4 : decode cJx35411_checkForComodification_da8c8 4 = .ok (.getfield 17, 3) := by decide +kernel
theorem dJx35411_checkForComodification_da8c8_7 : decode cJx35411_checkForComodification_da8c8 7 = .ok (.aload_n 0, 1) := by decide +kernel
theorem dJx35411_checkForComodification_da8c8_8 : decode cJx35411_checkForComodification_da8c8 8 = .ok (.getfield 22, 3) := by decide +kernel
theorem dJx35411_checkForComodification_da8c8_11 : decode cJx35411_checkForComodification_da8c8 11 = .ok (.if_icmp .eq 11, 3) := by decide +kernel
theorem dJx35411_checkForComodification_da8c8_14 : decode cJx35411_checkForComodification_da8c8 14 = .ok (.new 41, 3) := by decide +kernel
theorem dJx35411_checkForComodification_da8c8_17 : decode cJx35411_checkForComodification_da8c8 17 = .ok (.dup, 1) := by decide +kernel
theorem dJx35411_checkForComodification_da8c8_18 : decode cJx35411_checkForComodification_da8c8 18 = .ok (.invokespecial 43, 3) := by decide +kernel
theorem dJx35411_checkForComodification_da8c8_21 : decode cJx35411_checkForComodification_da8c8 21 = .ok (.athrow, 1) := by decide +kernel
theorem dJx35411_checkForComodification_da8c8_22 : decode cJx35411_checkForComodification_da8c8 22 = .ok (.return_, 1) := by decide +kernel
theorem dJx35411_next_0502b_0 : decode cJx35411_next_0502b 0 = .ok (.aload_n 0, 1) := by decide +kernel
theorem dJx35411_next_0502b_1 : decode cJx35411_next_0502b 1 = .ok (.invokevirtual 31, 3) := by decide +kernel
theorem dJx35411_next_0502b_4 : decode cJx35411_next_0502b 4 = .ok (.aload_n 0, 1) := by decide +kernel
theorem dJx35411_next_0502b_5 : decode cJx35411_next_0502b 5 = .ok (.getfield 25, 3) := by decide +kernel
theorem dJx35411_next_0502b_8 : decode cJx35411_next_0502b 8 = .ok (.istore_n 1, 1) := by decide +kernel
theorem dJx35411_next_0502b_9 : decode cJx35411_next_0502b 9 = .ok (.iload_n 1, 1) := by decide +kernel
theorem dJx35411_next_0502b_10 : decode cJx35411_next_0502b 10 = .ok (.aload_n 0, 1) := by decide +kernel
theorem dJx35411_next_0502b_11 : decode cJx35411_next_0502b 11 = .ok (.getfield 1, 3) := by decide +kernel
theorem dJx35411_next_0502b_14 : decode cJx35411_next_0502b 14 = .ok (.getfield 28, 3) := by decide +kernel
theorem dJx35411_next_0502b_17 : decode cJx35411_next_0502b 17 = .ok (.if_icmp .lt 11, 3) := by decide +kernel
theorem dJx35411_next_0502b_20 : decode cJx35411_next_0502b 20 = .ok (.new 34, 3) := by decide +kernel
theorem dJx35411_next_0502b_23 : decode cJx35411_next_0502b 23 = .ok (.dup, 1) := by decide +kernel
theorem dJx35411_next_0502b_24 : decode cJx35411_next_0502b 24 = .ok (.invokespecial 36, 3) := by decide +kernel
theorem dJx35411_next_0502b_27 : decode cJx35411_next_0502b 27 = .ok (.athrow, 1) := by decide +kernel
theorem dJx35411_next_0502b_28 : decode cJx35411_next_0502b 28 = .ok (.aload_n 0, 1) := by decide +kernel
theorem dJx35411_next_0502b_29 : decode cJx35411_next_0502b 29 = .ok (.getfield 1, 3) := by decide +kernel
theorem dJx35411_next_0502b_32 : decode cJx35411_next_0502b 32 = .ok (.getfield 37, 3) := by decide +kernel
theorem dJx35411_next_0502b_35 : decode cJx35411_next_0502b 35 = .ok (.astore_n 2, 1) := by decide +kernel
theorem dJx35411_next_0502b_36 : decode cJx35411_next_0502b 36 = .ok (.iload_n 1, 1) := by decide +kernel
theorem dJx35411_next_0502b_37 : decode cJx35411_next_0502b 37 = .ok (.aload_n 2, 1) := by decide +kernel
theorem dJx35411_next_0502b_38 : decode cJx35411_next_0502b 38 = .ok (.arraylength, 1) := by decide +kernel
theorem dJx35411_next_0502b_39 : decode cJx35411_next_0502b 39 = .ok (.if_icmp .lt 11, 3) := by decide +kernel
theorem dJx35411_next_0502b_42 : decode cJx35411_next_0502b 42 = .ok (.new 41, 3) := by decide +kernel
theorem dJx35411_next_0502b_45 : decode cJx35411_next_0502b 45 = .ok (.dup, 1) := by decide +kernel
theorem dJx35411_next_0502b_46 : decode cJx35411_next_0502b 46 = .ok (.invokespecial 43, 3) := by decide +kernel
theorem dJx35411_next_0502b_49 : decode cJx35411_next_0502b 49 = .ok (.athrow, 1) := by decide +kernel
theorem dJx35411_next_0502b_50 : decode cJx35411_next_0502b 50 = .ok (.aload_n 0, 1) := by decide +kernel
theorem dJx35411_next_0502b_51 : decode cJx35411_next_0502b 51 = .ok (.iload_n 1, 1) := by decide +kernel
theorem dJx35411_next_0502b_52 : decode cJx35411_next_0502b 52 = .ok (.iconst 1, 1) := by decide +kernel
theorem dJx35411_next_0502b_53 : decode cJx35411_next_0502b 53 = .ok (.iadd, 1) := by decide +kernel
theorem dJx35411_next_0502b_54 : decode cJx35411_next_0502b 54 = .ok (.putfield 25, 3) := by decide +kernel
theorem dJx35411_next_0502b_57 : decode cJx35411_next_0502b 57 = .ok (.aload_n 2, 1) := by decide +kernel
theorem dJx35411_next_0502b_58 : decode cJx35411_next_0502b 58 = .ok (.aload_n 0, 1) := by decide +kernel
theorem dJx35411_next_0502b_59 : decode cJx35411_next_0502b 59 = .ok (.iload_n 1, 1) := by decide +kernel
theorem dJx35411_next_0502b_60 : decode cJx35411_next_0502b 60 = .ok (.dup_x1, 1) := by decide +kernel
theorem dJx35411_next_0502b_61 : decode cJx35411_next_0502b 61 = .ok (.putfield 13, 3) := by decide +kernel
theorem dJx35411_next_0502b_64 : decode cJx35411_next_0502b 64 = .ok (.aaload, 1) := by decide +kernel
theorem dJx35411_next_0502b_65 : decode cJx35411_next_0502b 65 = .ok (.areturn, 1) := by decide +kernel
theorem dJ6_intValue_8abf5_0 : decode cJ6_intValue_8abf5 0 = .ok (.aload_n 0, 1) := by decide +kernel
theorem dJ6_intValue_8abf5_1 : decode cJ6_intValue_8abf5 1 = .ok (.getfield 205, 3) := by decide +kernel
theorem dJ6_intValue_8abf5_4 : decode cJ6_intValue_8abf5 4 = .ok (.ireturn, 1) := by decide +kernel
theorem dL_marksBehind_0 : decode cL_marksBehind 0 = .ok (.iconst 2, 1) := by decide +kernel
theorem dL_marksBehind_1 : decode cL_marksBehind 1 = .ok (.newarray .int, 2) := by decide +kernel
theorem dL_marksBehind_3 : decode cL_marksBehind 3 = .ok (.dup, 1) := by decide +kernel
theorem dL_marksBehind_4 : decode cL_marksBehind 4 = .ok (.iconst 0, 1) := by decide +kernel
theorem dL_marksBehind_5 : decode cL_marksBehind 5 = .ok (.aload_n 0, 1) := by decide +kernel
theorem dL_marksBehind_6 : decode cL_marksBehind 6 = .ok (.arraylength, 1) := by decide +kernel
theorem dL_marksBehind_7 : decode cL_marksBehind 7 = .ok (.iastore, 1) := by decide +kernel
theorem dL_marksBehind_8 : decode cL_marksBehind 8 = .ok (.dup, 1) := by decide +kernel
theorem dL_marksBehind_9 : decode cL_marksBehind 9 = .ok (.iconst 1, 1) := by decide +kernel
theorem dL_marksBehind_10 : decode cL_marksBehind 10 = .ok (.aload_n 0, 1) := by decide +kernel
theorem dL_marksBehind_11 : decode cL_marksBehind 11 = .ok (.arraylength, 1) := by decide +kernel
theorem dL_marksBehind_12 : decode cL_marksBehind 12 = .ok (.iastore, 1) := by decide +kernel
theorem dL_marksBehind_13 : decode cL_marksBehind 13 = .ok (.astore_n 3, 1) := by decide +kernel
theorem dL_marksBehind_14 : decode cL_marksBehind 14 = .ok (.aload_n 0, 1) := by decide +kernel
theorem dL_marksBehind_15 : decode cL_marksBehind 15 = .ok (.invokestatic 21, 3) := by decide +kernel
theorem dL_marksBehind_18 : decode cL_marksBehind 18 = .ok (.invokevirtual 27, 3) := by decide +kernel
theorem dL_marksBehind_21 : decode cL_marksBehind 21 = .ok (.astore 4, 2) := by decide +kernel
theorem dL_marksBehind_23 : decode cL_marksBehind 23 = .ok (.aload 4, 2) := by decide +kernel
theorem dL_marksBehind_25 : decode cL_marksBehind 25 = .ok (.invokeinterface 31 1, 5) := by decide +kernel
theorem dL_marksBehind_30 : decode cL_marksBehind 30 = .ok (.ifCond .eq 80, 3) := by decide +kernel
theorem dL_marksBehind_33 : decode cL_marksBehind 33 = .ok (.aload 4, 2) := by decide +kernel
theorem dL_marksBehind_35 : decode cL_marksBehind 35 = .ok (.invokeinterface 37 1, 5) := by decide +kernel
theorem dL_marksBehind_40 : decode cL_marksBehind 40 = .ok (.checkcast 12, 3) := by decide +kernel
theorem dL_marksBehind_43 : decode cL_marksBehind 43 = .ok (.invokevirtual 41, 3) := by decide +kernel
theorem dL_marksBehind_46 : decode cL_marksBehind 46 = .ok (.istore 5, 2) := by decide +kernel
theorem dL_marksBehind_48 : decode cL_marksBehind 48 = .ok (.iload 5, 2) := by decide +kernel
theorem dL_marksBehind_50 : decode cL_marksBehind 50 = .ok (.iload_n 1, 1) := by decide +kernel
theorem dL_marksBehind_51 : decode cL_marksBehind 51 = .ok (.if_icmp .le 27, 3) := by decide +kernel
theorem dL_marksBehind_54 : decode cL_marksBehind 54 = .ok (.aload_n 0, 1) := by decide +kernel
theorem dL_marksBehind_55 : decode cL_marksBehind 55 = .ok (.iload 5, 2) := by decide +kernel
theorem dL_marksBehind_57 : decode cL_marksBehind 57 = .ok (.baload, 1) := by decide +kernel
theorem dL_marksBehind_58 : decode cL_marksBehind 58 = .ok (.iload_n 2, 1) := by decide +kernel
theorem dL_marksBehind_59 : decode cL_marksBehind 59 = .ok (.if_icmp .eq 19, 3) := by decide +kernel
theorem dL_marksBehind_62 : decode cL_marksBehind 62 = .ok (.aload_n 3, 1) := by decide +kernel
theorem dL_marksBehind_63 : decode cL_marksBehind 63 = .ok (.iconst 0, 1) := by decide +kernel
theorem dL_marksBehind_64 : decode cL_marksBehind 64 = .ok (.iaload, 1) := by decide +kernel
theorem dL_marksBehind_65 : decode cL_marksBehind 65 = .ok (.aload_n 0, 1) := by decide +kernel
theorem dL_marksBehind_66 : decode cL_marksBehind 66 = .ok (.arraylength, 1) := by decide +kernel
theorem dL_marksBehind_67 : decode cL_marksBehind 67 = .ok (.if_icmp .ne 11, 3) := by decide +kernel
theorem dL_marksBehind_70 : decode cL_marksBehind 70 = .ok (.aload_n 3, 1) := by decide +kernel
theorem dL_marksBehind_71 : decode cL_marksBehind 71 = .ok (.iconst 0, 1) := by decide +kernel
theorem dL_marksBehind_72 : decode cL_marksBehind 72 = .ok (.iload 5, 2) := by decide +kernel
theorem dL_marksBehind_74 : decode cL_marksBehind 74 = .ok (.iastore, 1) := by decide +kernel
theorem dL_marksBehind_75 : decode cL_marksBehind 75 = .ok (.goto 32, 3) := by decide +kernel
theorem dL_marksBehind_78 : decode cL_marksBehind 78 = .ok (.aload_n 3, 1) := by decide +kernel
theorem dL_marksBehind_79 : decode cL_marksBehind 79 = .ok (.iconst 0, 1) := by decide +kernel
theorem dL_marksBehind_80 : decode cL_marksBehind 80 = .ok (.iaload, 1) := by decide +kernel
theorem dL_marksBehind_81 : decode cL_marksBehind 81 = .ok (.aload_n 0, 1) := by decide +kernel
theorem dL_marksBehind_82 : decode cL_marksBehind 82 = .ok (.arraylength, 1) := by decide +kernel
theorem dL_marksBehind_83 : decode cL_marksBehind 83 = .ok (.if_icmp .ge 24, 3) := by decide +kernel
theorem dL_marksBehind_86 : decode cL_marksBehind 86 = .ok (.iload 5, 2) := by decide +kernel
theorem dL_marksBehind_88 : decode cL_marksBehind 88 = .ok (.aload_n 3, 1) := by decide +kernel
theorem dL_marksBehind_89 : decode cL_marksBehind 89 = .ok (.iconst 0, 1) := by decide +kernel
theorem dL_marksBehind_90 : decode cL_marksBehind 90 = .ok (.iaload, 1) := by decide +kernel
theorem dL_marksBehind_91 : decode cL_marksBehind 91 = .ok (.if_icmp .le 16, 3) := by decide +kernel
theorem dL_marksBehind_94 : decode cL_marksBehind 94 = .ok (.aload_n 3, 1) := by decide +kernel
theorem dL_marksBehind_95 : decode cL_marksBehind 95 = .ok (.iconst 1, 1) := by decide +kernel
theorem dL_marksBehind_96 : decode cL_marksBehind 96 = .ok (.iaload, 1) := by decide +kernel
theorem dL_marksBehind_97 : decode cL_marksBehind 97 = .ok (.aload_n 0, 1) := by decide +kernel
theorem dL_marksBehind_98 : decode cL_marksBehind 98 = .ok (.arraylength, 1) := by decide +kernel
theorem dL_marksBehind_99 : decode cL_marksBehind 99 = .ok (.if_icmp .ne 8, 3) := by decide +kernel
theorem dL_marksBehind_102 : decode cL_marksBehind 102 = .ok (.aload_n 3, 1) := by decide +kernel
theorem dL_marksBehind_103 : decode cL_marksBehind 103 = .ok (.iconst 1, 1) := by decide +kernel
theorem dL_marksBehind_104 : decode cL_marksBehind 104 = .ok (.iload 5, 2) := by decide +kernel
theorem dL_marksBehind_106 : decode cL_marksBehind 106 = .ok (.iastore, 1) := by decide +kernel
theorem dL_marksBehind_107 : decode cL_marksBehind 107 = .ok (.goto (-84), 3) := by decide +kernel
theorem dL_marksBehind_110 : decode cL_marksBehind 110 = .ok (.aload_n 3, 1) := by decide +kernel
theorem dL_marksBehind_111 : decode cL_marksBehind 111 = .ok (.areturn, 1) := by decide +kernel
theorem dX8_init_0 : decode cX8_init 0 = .ok (.aload_n 0, 1) := by decide +kernel
theorem dX8_init_1 : decode cX8_init 1 = .ok (.invokespecial 1, 3) := by decide +kernel
theorem dX8_init_4 : decode cX8_init 4 = .ok (.aload_n 0, 1) := by decide +kernel
theorem dX8_init_5 : decode cX8_init 5 = .ok (.iload_n 1, 1) := by decide +kernel
theorem dX8_init_6 : decode cX8_init 6 = .ok (.putfield 7, 3) := by decide +kernel
theorem dX8_init_9 : decode cX8_init 9 = .ok (.aload_n 0, 1) := by decide +kernel
theorem dX8_init_10 : decode cX8_init 10 = .ok (.iload_n 2, 1) := by decide +kernel
theorem dX8_init_11 : decode cX8_init 11 = .ok (.putfield 13, 3) := by decide +kernel
theorem dX8_init_14 : decode cX8_init 14 = .ok (.aload_n 0, 1) := by decide +kernel
theorem dX8_init_15 : decode cX8_init 15 = .ok (.iload_n 3, 1) := by decide +kernel
theorem dX8_init_16 : decode cX8_init 16 = .ok (.putfield 16, 3) := by decide +kernel
theorem dX8_init_19 : decode cX8_init 19 = .ok (.aload_n 0, 1) := by decide +kernel
theorem dX8_init_20 : decode cX8_init 20 = .ok (.iload 4, 2) := by decide +kernel
theorem dX8_init_22 : decode cX8_init 22 = .ok (.putfield 19, 3) := by decide +kernel
theorem dX8_init_25 : decode cX8_init 25 = .ok (.return_, 1) := by decide +kernel
theorem dL_code_0 : decode cL_code 0 = .ok (.new 8, 3) := by decide +kernel
theorem dL_code_3 : decode cL_code 3 = .ok (.dup, 1) := by decide +kernel
theorem dL_code_4 : decode cL_code 4 = .ok (.invokespecial 10, 3) := by decide +kernel
theorem dL_code_7 : decode cL_code 7 = .ok (.astore_n 2, 1) := by decide +kernel
theorem dL_code_8 : decode cL_code 8 = .ok (.iconst (-1), 1) := by decide +kernel
theorem dL_code_9 : decode cL_code 9 = .ok (.istore_n 3, 1) := by decide +kernel
theorem dL_code_10 : decode cL_code 10 = .ok (.iconst 0, 1) := by decide +kernel
theorem dL_code_11 : decode cL_code 11 = .ok (.istore 4, 2) := by decide +kernel
theorem dL_code_13 : decode cL_code 13 = .ok (.iload_n 3, 1) := by decide +kernel
theorem dL_code_14 : decode cL_code 14 = .ok (.aload_n 1, 1) := by decide +kernel
theorem dL_code_15 : decode cL_code 15 = .ok (.arraylength, 1) := by decide +kernel
theorem dL_code_16 : decode cL_code 16 = .ok (.if_icmp .ge 160, 3) := by decide +kernel
theorem dL_code_19 : decode cL_code 19 = .ok (.aload_n 1, 1) := by decide +kernel
theorem dL_code_20 : decode cL_code 20 = .ok (.iload_n 3, 1) := by decide +kernel
theorem dL_code_21 : decode cL_code 21 = .ok (.iload 4, 2) := by decide +kernel
theorem dL_code_23 : decode cL_code 23 = .ok (.ifCond .ne 7, 3) := by decide +kernel
theorem dL_code_26 : decode cL_code 26 = .ok (.iconst 1, 1) := by decide +kernel
theorem dL_code_27 : decode cL_code 27 = .ok (.goto 4, 3) := by decide +kernel
theorem dL_code_30 : decode cL_code 30 = .ok (.iconst 0, 1) := by decide +kernel
theorem dL_code_31 : decode cL_code 31 = .ok (.invokestatic 45, 3) := by decide +kernel
theorem dL_code_34 : decode cL_code 34 = .ok (.istore 5, 2) := by decide +kernel
theorem dL_code_36 : decode cL_code 36 = .ok (.aload_n 0, 1) := by decide +kernel
theorem dL_code_37 : decode cL_code 37 = .ok (.iload_n 3, 1) := by decide +kernel
theorem dL_code_38 : decode cL_code 38 = .ok (.iload 4, 2) := by decide +kernel
theorem dL_code_40 : decode cL_code 40 = .ok (.invokestatic 49, 3) := by decide +kernel
theorem dL_code_43 : decode cL_code 43 = .ok (.astore 6, 2) := by decide +kernel
theorem dL_code_45 : decode cL_code 45 = .ok (.aload 6, 2) := by decide +kernel
theorem dL_code_47 : decode cL_code 47 = .ok (.iconst 1, 1) := by decide +kernel
theorem dL_code_48 : decode cL_code 48 = .ok (.iaload, 1) := by decide +kernel
theorem dL_code_49 : decode cL_code 49 = .ok (.iload 5, 2) := by decide +kernel
theorem dL_code_51 : decode cL_code 51 = .ok (.if_icmp .ge 27, 3) := by decide +kernel
theorem dL_code_54 : decode cL_code 54 = .ok (.aload 6, 2) := by decide +kernel
theorem dL_code_56 : decode cL_code 56 = .ok (.iconst 1, 1) := by decide +kernel
theorem dL_code_57 : decode cL_code 57 = .ok (.iaload, 1) := by decide +kernel
theorem dL_code_58 : decode cL_code 58 = .ok (.istore_n 3, 1) := by decide +kernel
theorem dL_code_59 : decode cL_code 59 = .ok (.aload_n 2, 1) := by decide +kernel
theorem dL_code_60 : decode cL_code 60 = .ok (.new 53, 3) := by decide +kernel
theorem dL_code_63 : decode cL_code 63 = .ok (.dup, 1) := by decide +kernel
theorem dL_code_64 : decode cL_code 64 = .ok (.iconst 0, 1) := by decide +kernel
theorem dL_code_65 : decode cL_code 65 = .ok (.iconst 0, 1) := by decide +kernel
theorem dL_code_66 : decode cL_code 66 = .ok (.iconst 0, 1) := by decide +kernel
theorem dL_code_67 : decode cL_code 67 = .ok (.iload_n 3, 1) := by decide +kernel
theorem dL_code_68 : decode cL_code 68 = .ok (.invokespecial 55, 3) := by decide +kernel
theorem dL_code_71 : decode cL_code 71 = .ok (.invokevirtual 17, 3) := by decide +kernel
theorem dL_code_74 : decode cL_code 74 = .ok (.pop, 1) := by decide +kernel
theorem dL_code_75 : decode cL_code 75 = .ok (.goto 98, 3) := by decide +kernel
theorem dL_code_78 : decode cL_code 78 = .ok (.iload 5, 2) := by decide +kernel
theorem dL_code_80 : decode cL_code 80 = .ok (.aload 6, 2) := by decide +kernel
theorem dL_code_82 : decode cL_code 82 = .ok (.iconst 0, 1) := by decide +kernel
theorem dL_code_83 : decode cL_code 83 = .ok (.iaload, 1) := by decide +kernel
theorem dL_code_84 : decode cL_code 84 = .ok (.isub, 1) := by decide +kernel
theorem dL_code_85 : decode cL_code 85 = .ok (.invokestatic 58, 3) := by decide +kernel
theorem dL_code_88 : decode cL_code 88 = .ok (.iconst 4, 1) := by decide +kernel
theorem dL_code_89 : decode cL_code 89 = .ok (.if_icmp .ge 43, 3) := by decide +kernel
theorem dL_code_92 : decode cL_code 92 = .ok (.iload 5, 2) := by decide +kernel
theorem dL_code_94 : decode cL_code 94 = .ok (.istore_n 3, 1) := by decide +kernel
theorem dL_code_95 : decode cL_code 95 = .ok (.iload 4, 2) := by decide +kernel
theorem dL_code_97 : decode cL_code 97 = .ok (.ifCond .ne 7, 3) := by decide +kernel
theorem dL_code_100 : decode cL_code 100 = .ok (.iconst 1, 1) := by decide +kernel
theorem dL_code_101 : decode cL_code 101 = .ok (.goto 4, 3) := by decide +kernel
theorem dL_code_104 : decode cL_code 104 = .ok (.iconst 0, 1) := by decide +kernel
theorem dL_code_105 : decode cL_code 105 = .ok (.istore 4, 2) := by decide +kernel
theorem dL_code_107 : decode cL_code 107 = .ok (.aload_n 2, 1) := by decide +kernel
theorem dL_code_108 : decode cL_code 108 = .ok (.new 53, 3) := by decide +kernel
theorem dL_code_111 : decode cL_code 111 = .ok (.dup, 1) := by decide +kernel
theorem dL_code_112 : decode cL_code 112 = .ok (.iconst 1, 1) := by decide +kernel
theorem dL_code_113 : decode cL_code 113 = .ok (.iload 5, 2) := by decide +kernel
theorem dL_code_115 : decode cL_code 115 = .ok (.aload 6, 2) := by decide +kernel
theorem dL_code_117 : decode cL_code 117 = .ok (.iconst 0, 1) := by decide +kernel
theorem dL_code_118 : decode cL_code 118 = .ok (.iaload, 1) := by decide +kernel
theorem dL_code_119 : decode cL_code 119 = .ok (.isub, 1) := by decide +kernel
theorem dL_code_120 : decode cL_code 120 = .ok (.iconst 0, 1) := by decide +kernel
theorem dL_code_121 : decode cL_code 121 = .ok (.iload_n 3, 1) := by decide +kernel
theorem dL_code_122 : decode cL_code 122 = .ok (.invokespecial 55, 3) := by decide +kernel
theorem dL_code_125 : decode cL_code 125 = .ok (.invokevirtual 17, 3) := by decide +kernel
theorem dL_code_128 : decode cL_code 128 = .ok (.pop, 1) := by decide +kernel
theorem dL_code_129 : decode cL_code 129 = .ok (.goto 44, 3) := by decide +kernel
theorem dL_code_132 : decode cL_code 132 = .ok (.aload_n 1, 1) := by decide +kernel
theorem dL_code_133 : decode cL_code 133 = .ok (.iload 5, 2) := by decide +kernel
theorem dL_code_135 : decode cL_code 135 = .ok (.iload 4, 2) := by decide +kernel
theorem dL_code_137 : decode cL_code 137 = .ok (.invokestatic 45, 3) := by decide +kernel
theorem dL_code_140 : decode cL_code 140 = .ok (.istore 7, 2) := by decide +kernel
theorem dL_code_142 : decode cL_code 142 = .ok (.aload_n 2, 1) := by decide +kernel
theorem dL_code_143 : decode cL_code 143 = .ok (.new 53, 3) := by decide +kernel
theorem dL_code_146 : decode cL_code 146 = .ok (.dup, 1) := by decide +kernel
theorem dL_code_147 : decode cL_code 147 = .ok (.iconst 2, 1) := by decide +kernel
theorem dL_code_148 : decode cL_code 148 = .ok (.iload 5, 2) := by decide +kernel
theorem dL_code_150 : decode cL_code 150 = .ok (.iload_n 3, 1) := by decide +kernel
theorem dL_code_151 : decode cL_code 151 = .ok (.iconst 0, 1) := by decide +kernel
theorem dL_code_152 : decode cL_code 152 = .ok (.invokestatic 64, 3) := by decide +kernel
theorem dL_code_155 : decode cL_code 155 = .ok (.isub, 1) := by decide +kernel
theorem dL_code_156 : decode cL_code 156 = .ok (.iload 7, 2) := by decide +kernel
theorem dL_code_158 : decode cL_code 158 = .ok (.iload 5, 2) := by decide +kernel
theorem dL_code_160 : decode cL_code 160 = .ok (.isub, 1) := by decide +kernel
theorem dL_code_161 : decode cL_code 161 = .ok (.iload 7, 2) := by decide +kernel
theorem dL_code_163 : decode cL_code 163 = .ok (.invokespecial 55, 3) := by decide +kernel
theorem dL_code_166 : decode cL_code 166 = .ok (.invokevirtual 17, 3) := by decide +kernel
theorem dL_code_169 : decode cL_code 169 = .ok (.pop, 1) := by decide +kernel
theorem dL_code_170 : decode cL_code 170 = .ok (.iload 7, 2) := by decide +kernel
theorem dL_code_172 : decode cL_code 172 = .ok (.istore_n 3, 1) := by decide +kernel
theorem dL_code_173 : decode cL_code 173 = .ok (.goto (-160), 3) := by decide +kernel
theorem dL_code_176 : decode cL_code 176 = .ok (.aload_n 2, 1) := by decide +kernel
theorem dL_code_177 : decode cL_code 177 = .ok (.areturn, 1) := by decide +kernel
theorem dX9_codeOf_0 : decode cX9_codeOf 0 = .ok (.aload_n 0, 1) := by decide +kernel
theorem dX9_codeOf_1 : decode cX9_codeOf 1 = .ok (.aload_n 0, 1) := by decide +kernel
theorem dX9_codeOf_2 : decode cX9_codeOf 2 = .ok (.getfield 19, 3) := by decide +kernel
theorem dX9_codeOf_5 : decode cX9_codeOf 5 = .ok (.iload_n 1, 1) := by decide +kernel
theorem dX9_codeOf_6 : decode cX9_codeOf 6 = .ok (.invokevirtual 57, 3) := by decide +kernel
theorem dX9_codeOf_9 : decode cX9_codeOf 9 = .ok (.aload_n 0, 1) := by decide +kernel
theorem dX9_codeOf_10 : decode cX9_codeOf 10 = .ok (.getfield 19, 3) := by decide +kernel
theorem dX9_codeOf_13 : decode cX9_codeOf 13 = .ok (.iload_n 1, 1) := by decide +kernel
theorem dX9_codeOf_14 : decode cX9_codeOf 14 = .ok (.invokevirtual 53, 3) := by decide +kernel
theorem dX9_codeOf_17 : decode cX9_codeOf 17 = .ok (.checkcast 46, 3) := by decide +kernel
theorem dX9_codeOf_20 : decode cX9_codeOf 20 = .ok (.invokestatic 61, 3) := by decide +kernel
theorem dX9_codeOf_23 : decode cX9_codeOf 23 = .ok (.areturn, 1) := by decide +kernel
theorem dL_alone_0 : decode cL_alone 0 = .ok (.new 8, 3) := by decide +kernel
theorem dL_alone_3 : decode cL_alone 3 = .ok (.dup, 1) := by decide +kernel
theorem dL_alone_4 : decode cL_alone 4 = .ok (.invokespecial 10, 3) := by decide +kernel
theorem dL_alone_7 : decode cL_alone 7 = .ok (.astore_n 1, 1) := by decide +kernel
theorem dL_alone_8 : decode cL_alone 8 = .ok (.iconst 0, 1) := by decide +kernel
theorem dL_alone_9 : decode cL_alone 9 = .ok (.istore_n 2, 1) := by decide +kernel
theorem dL_alone_10 : decode cL_alone 10 = .ok (.aload_n 0, 1) := by decide +kernel
theorem dL_alone_11 : decode cL_alone 11 = .ok (.invokestatic 21, 3) := by decide +kernel
theorem dL_alone_14 : decode cL_alone 14 = .ok (.invokevirtual 27, 3) := by decide +kernel
theorem dL_alone_17 : decode cL_alone 17 = .ok (.astore_n 3, 1) := by decide +kernel
theorem dL_alone_18 : decode cL_alone 18 = .ok (.aload_n 3, 1) := by decide +kernel
theorem dL_alone_19 : decode cL_alone 19 = .ok (.invokeinterface 31 1, 5) := by decide +kernel
theorem dL_alone_24 : decode cL_alone 24 = .ok (.ifCond .eq 35, 3) := by decide +kernel
theorem dL_alone_27 : decode cL_alone 27 = .ok (.aload_n 3, 1) := by decide +kernel
theorem dL_alone_28 : decode cL_alone 28 = .ok (.invokeinterface 37 1, 5) := by decide +kernel
theorem dL_alone_33 : decode cL_alone 33 = .ok (.checkcast 12, 3) := by decide +kernel
theorem dL_alone_36 : decode cL_alone 36 = .ok (.invokevirtual 41, 3) := by decide +kernel
theorem dL_alone_39 : decode cL_alone 39 = .ok (.istore 4, 2) := by decide +kernel
theorem dL_alone_41 : decode cL_alone 41 = .ok (.aload_n 1, 1) := by decide +kernel
theorem dL_alone_42 : decode cL_alone 42 = .ok (.iload 4, 2) := by decide +kernel
theorem dL_alone_44 : decode cL_alone 44 = .ok (.iload_n 2, 1) := by decide +kernel
theorem dL_alone_45 : decode cL_alone 45 = .ok (.isub, 1) := by decide +kernel
theorem dL_alone_46 : decode cL_alone 46 = .ok (.invokestatic 11, 3) := by decide +kernel
theorem dL_alone_49 : decode cL_alone 49 = .ok (.invokevirtual 17, 3) := by decide +kernel
theorem dL_alone_52 : decode cL_alone 52 = .ok (.pop, 1) := by decide +kernel
theorem dL_alone_53 : decode cL_alone 53 = .ok (.iload 4, 2) := by decide +kernel
theorem dL_alone_55 : decode cL_alone 55 = .ok (.istore_n 2, 1) := by decide +kernel
theorem dL_alone_56 : decode cL_alone 56 = .ok (.goto (-38), 3) := by decide +kernel
theorem dL_alone_59 : decode cL_alone 59 = .ok (.aload_n 1, 1) := by decide +kernel
theorem dL_alone_60 : decode cL_alone 60 = .ok (.aload_n 0, 1) := by decide +kernel
theorem dL_alone_61 : decode cL_alone 61 = .ok (.arraylength, 1) := by decide +kernel
theorem dL_alone_62 : decode cL_alone 62 = .ok (.iload_n 2, 1) := by decide +kernel
theorem dL_alone_63 : decode cL_alone 63 = .ok (.isub, 1) := by decide +kernel
theorem dL_alone_64 : decode cL_alone 64 = .ok (.invokestatic 11, 3) := by decide +kernel
theorem dL_alone_67 : decode cL_alone 67 = .ok (.invokevirtual 17, 3) := by decide +kernel
theorem dL_alone_70 : decode cL_alone 70 = .ok (.pop, 1) := by decide +kernel
theorem dL_alone_71 : decode cL_alone 71 = .ok (.aload_n 1, 1) := by decide +kernel
theorem dL_alone_72 : decode cL_alone 72 = .ok (.areturn, 1) := by decide +kernel
theorem dL_bitsOf_0 : decode cL_bitsOf 0 = .ok (.iload_n 0, 1) := by decide +kernel
theorem dL_bitsOf_1 : decode cL_bitsOf 1 = .ok (.bipush 8, 2) := by decide +kernel
theorem dL_bitsOf_3 : decode cL_bitsOf 3 = .ok (.if_icmp .ge 7, 3) := by decide +kernel
theorem dL_bitsOf_6 : decode cL_bitsOf 6 = .ok (.iconst 4, 1) := by decide +kernel
theorem dL_bitsOf_7 : decode cL_bitsOf 7 = .ok (.goto 5, 3) := by decide +kernel
theorem dL_bitsOf_10 : decode cL_bitsOf 10 = .ok (.bipush 8, 2) := by decide +kernel
theorem dL_bitsOf_12 : decode cL_bitsOf 12 = .ok (.ireturn, 1) := by decide +kernel
theorem dL_bits_0 : decode cL_bits 0 = .ok (.iconst 0, 1) := by decide +kernel
theorem dL_bits_1 : decode cL_bits 1 = .ok (.istore_n 1, 1) := by decide +kernel
theorem dL_bits_2 : decode cL_bits 2 = .ok (.aload_n 0, 1) := by decide +kernel
theorem dL_bits_3 : decode cL_bits 3 = .ok (.invokevirtual 27, 3) := by decide +kernel
theorem dL_bits_6 : decode cL_bits 6 = .ok (.astore_n 2, 1) := by decide +kernel
theorem dL_bits_7 : decode cL_bits 7 = .ok (.aload_n 2, 1) := by decide +kernel
theorem dL_bits_8 : decode cL_bits 8 = .ok (.invokeinterface 31 1, 5) := by decide +kernel
theorem dL_bits_13 : decode cL_bits 13 = .ok (.ifCond .eq 26, 3) := by decide +kernel
theorem dL_bits_16 : decode cL_bits 16 = .ok (.aload_n 2, 1) := by decide +kernel
theorem dL_bits_17 : decode cL_bits 17 = .ok (.invokeinterface 37 1, 5) := by decide +kernel
theorem dL_bits_22 : decode cL_bits 22 = .ok (.checkcast 12, 3) := by decide +kernel
theorem dL_bits_25 : decode cL_bits 25 = .ok (.invokevirtual 41, 3) := by decide +kernel
theorem dL_bits_28 : decode cL_bits 28 = .ok (.istore_n 3, 1) := by decide +kernel
theorem dL_bits_29 : decode cL_bits 29 = .ok (.iload_n 1, 1) := by decide +kernel
theorem dL_bits_30 : decode cL_bits 30 = .ok (.iload_n 3, 1) := by decide +kernel
theorem dL_bits_31 : decode cL_bits 31 = .ok (.invokestatic 78, 3) := by decide +kernel
theorem dL_bits_34 : decode cL_bits 34 = .ok (.iadd, 1) := by decide +kernel
theorem dL_bits_35 : decode cL_bits 35 = .ok (.istore_n 1, 1) := by decide +kernel
theorem dL_bits_36 : decode cL_bits 36 = .ok (.goto (-29), 3) := by decide +kernel
theorem dL_bits_39 : decode cL_bits 39 = .ok (.iload_n 1, 1) := by decide +kernel
theorem dL_bits_40 : decode cL_bits 40 = .ok (.ireturn, 1) := by decide +kernel
theorem dX8_bits_0 : decode cX8_bits 0 = .ok (.aload_n 0, 1) := by decide +kernel
theorem dX8_bits_1 : decode cX8_bits 1 = .ok (.getfield 7, 3) := by decide +kernel
theorem dX8_bits_4 : decode cX8_bits 4 = .ok (.ifCond .ne 5, 3) := by decide +kernel
theorem dX8_bits_7 : decode cX8_bits 7 = .ok (.iconst 4, 1) := by decide +kernel
theorem dX8_bits_8 : decode cX8_bits 8 = .ok (.ireturn, 1) := by decide +kernel
theorem dX8_bits_9 : decode cX8_bits 9 = .ok (.aload_n 0, 1) := by decide +kernel
theorem dX8_bits_10 : decode cX8_bits 10 = .ok (.getfield 7, 3) := by decide +kernel
theorem dX8_bits_13 : decode cX8_bits 13 = .ok (.iconst 2, 1) := by decide +kernel
theorem dX8_bits_14 : decode cX8_bits 14 = .ok (.if_icmp .ne 21, 3) := by decide +kernel
theorem dX8_bits_17 : decode cX8_bits 17 = .ok (.iconst 3, 1) := by decide +kernel
theorem dX8_bits_18 : decode cX8_bits 18 = .ok (.aload_n 0, 1) := by decide +kernel
theorem dX8_bits_19 : decode cX8_bits 19 = .ok (.getfield 13, 3) := by decide +kernel
theorem dX8_bits_22 : decode cX8_bits 22 = .ok (.invokestatic 22, 3) := by decide +kernel
theorem dX8_bits_25 : decode cX8_bits 25 = .ok (.iadd, 1) := by decide +kernel
theorem dX8_bits_26 : decode cX8_bits 26 = .ok (.aload_n 0, 1) := by decide +kernel
theorem dX8_bits_27 : decode cX8_bits 27 = .ok (.getfield 16, 3) := by decide +kernel
theorem dX8_bits_30 : decode cX8_bits 30 = .ok (.invokestatic 22, 3) := by decide +kernel
theorem dX8_bits_33 : decode cX8_bits 33 = .ok (.iadd, 1) := by decide +kernel
theorem dX8_bits_34 : decode cX8_bits 34 = .ok (.ireturn, 1) := by decide +kernel
theorem dX8_bits_35 : decode cX8_bits 35 = .ok (.aload_n 0, 1) := by decide +kernel
theorem dX8_bits_36 : decode cX8_bits 36 = .ok (.getfield 13, 3) := by decide +kernel
theorem dX8_bits_39 : decode cX8_bits 39 = .ok (.invokestatic 28, 3) := by decide +kernel
theorem dX8_bits_42 : decode cX8_bits 42 = .ok (.tableswitch 39 0 2 #[26, 30, 34], 26) := by decide +kernel
theorem dX8_bits_68 : decode cX8_bits 68 = .ok (.iconst 1, 1) := by decide +kernel
theorem dX8_bits_69 : decode cX8_bits 69 = .ok (.goto 14, 3) := by decide +kernel
theorem dX8_bits_72 : decode cX8_bits 72 = .ok (.iconst 3, 1) := by decide +kernel
theorem dX8_bits_73 : decode cX8_bits 73 = .ok (.goto 10, 3) := by decide +kernel
theorem dX8_bits_76 : decode cX8_bits 76 = .ok (.bipush 6, 2) := by decide +kernel
theorem dX8_bits_78 : decode cX8_bits 78 = .ok (.goto 5, 3) := by decide +kernel
theorem dX8_bits_81 : decode cX8_bits 81 = .ok (.bipush 7, 2) := by decide +kernel
theorem dX8_bits_83 : decode cX8_bits 83 = .ok (.ireturn, 1) := by decide +kernel
theorem dL_modeBits_0 : decode cL_modeBits 0 = .ok (.iconst 0, 1) := by decide +kernel
theorem dL_modeBits_1 : decode cL_modeBits 1 = .ok (.istore_n 1, 1) := by decide +kernel
theorem dL_modeBits_2 : decode cL_modeBits 2 = .ok (.aload_n 0, 1) := by decide +kernel
theorem dL_modeBits_3 : decode cL_modeBits 3 = .ok (.invokevirtual 27, 3) := by decide +kernel
theorem dL_modeBits_6 : decode cL_modeBits 6 = .ok (.astore_n 2, 1) := by decide +kernel
theorem dL_modeBits_7 : decode cL_modeBits 7 = .ok (.aload_n 2, 1) := by decide +kernel
theorem dL_modeBits_8 : decode cL_modeBits 8 = .ok (.invokeinterface 31 1, 5) := by decide +kernel
theorem dL_modeBits_13 : decode cL_modeBits 13 = .ok (.ifCond .eq 23, 3) := by decide +kernel
theorem dL_modeBits_16 : decode cL_modeBits 16 = .ok (.aload_n 2, 1) := by decide +kernel
theorem dL_modeBits_17 : decode cL_modeBits 17 = .ok (.invokeinterface 37 1, 5) := by decide +kernel
theorem dL_modeBits_22 : decode cL_modeBits 22 = .ok (.checkcast 53, 3) := by decide +kernel
theorem dL_modeBits_25 : decode cL_modeBits 25 = .ok (.astore_n 3, 1) := by decide +kernel
theorem dL_modeBits_26 : decode cL_modeBits 26 = .ok (.iload_n 1, 1) := by decide +kernel
theorem dL_modeBits_27 : decode cL_modeBits 27 = .ok (.aload_n 3, 1) := by decide +kernel
theorem dL_modeBits_28 : decode cL_modeBits 28 = .ok (.invokevirtual 81, 3) := by decide +kernel
theorem dL_modeBits_31 : decode cL_modeBits 31 = .ok (.iadd, 1) := by decide +kernel
theorem dL_modeBits_32 : decode cL_modeBits 32 = .ok (.istore_n 1, 1) := by decide +kernel
theorem dL_modeBits_33 : decode cL_modeBits 33 = .ok (.goto (-26), 3) := by decide +kernel
theorem dL_modeBits_36 : decode cL_modeBits 36 = .ok (.iload_n 1, 1) := by decide +kernel
theorem dL_modeBits_37 : decode cL_modeBits 37 = .ok (.ireturn, 1) := by decide +kernel
theorem dX9_isMark_0 : decode cX9_isMark 0 = .ok (.iload_n 1, 1) := by decide +kernel
theorem dX9_isMark_1 : decode cX9_isMark 1 = .ok (.aload_n 0, 1) := by decide +kernel
theorem dX9_isMark_2 : decode cX9_isMark 2 = .ok (.getfield 7, 3) := by decide +kernel
theorem dX9_isMark_5 : decode cX9_isMark 5 = .ok (.iconst 0, 1) := by decide +kernel
theorem dX9_isMark_6 : decode cX9_isMark 6 = .ok (.iaload, 1) := by decide +kernel
theorem dX9_isMark_7 : decode cX9_isMark 7 = .ok (.irem, 1) := by decide +kernel
theorem dX9_isMark_8 : decode cX9_isMark 8 = .ok (.ifCond .eq 41, 3) := by decide +kernel
theorem dX9_isMark_11 : decode cX9_isMark 11 = .ok (.aload_n 0, 1) := by decide +kernel
theorem dX9_isMark_12 : decode cX9_isMark 12 = .ok (.getfield 7, 3) := by decide +kernel
theorem dX9_isMark_15 : decode cX9_isMark 15 = .ok (.iconst 1, 1) := by decide +kernel
theorem dX9_isMark_16 : decode cX9_isMark 16 = .ok (.iaload, 1) := by decide +kernel
theorem dX9_isMark_17 : decode cX9_isMark 17 = .ok (.iconst 1, 1) := by decide +kernel
theorem dX9_isMark_18 : decode cX9_isMark 18 = .ok (.if_icmp .ne 35, 3) := by decide +kernel
theorem dX9_isMark_21 : decode cX9_isMark 21 = .ok (.aload_n 0, 1) := by decide +kernel
theorem dX9_isMark_22 : decode cX9_isMark 22 = .ok (.getfield 19, 3) := by decide +kernel
theorem dX9_isMark_25 : decode cX9_isMark 25 = .ok (.iload_n 1, 1) := by decide +kernel
theorem dX9_isMark_26 : decode cX9_isMark 26 = .ok (.invokevirtual 53, 3) := by decide +kernel
theorem dX9_isMark_29 : decode cX9_isMark 29 = .ok (.checkcast 46, 3) := by decide +kernel
theorem dX9_isMark_32 : decode cX9_isMark 32 = .ok (.invokestatic 67, 3) := by decide +kernel
theorem dX9_isMark_35 : decode cX9_isMark 35 = .ok (.invokestatic 71, 3) := by decide +kernel
theorem dX9_isMark_38 : decode cX9_isMark 38 = .ok (.aload_n 0, 1) := by decide +kernel
theorem dX9_isMark_39 : decode cX9_isMark 39 = .ok (.iload_n 1, 1) := by decide +kernel
theorem dX9_isMark_40 : decode cX9_isMark 40 = .ok (.invokevirtual 75, 3) := by decide +kernel
theorem dX9_isMark_43 : decode cX9_isMark 43 = .ok (.invokestatic 79, 3) := by decide +kernel
theorem dX9_isMark_46 : decode cX9_isMark 46 = .ok (.if_icmp .ge 7, 3) := by decide +kernel
theorem dX9_isMark_49 : decode cX9_isMark 49 = .ok (.iconst 1, 1) := by decide +kernel
theorem dX9_isMark_50 : decode cX9_isMark 50 = .ok (.goto 4, 3) := by decide +kernel
theorem dX9_isMark_53 : decode cX9_isMark 53 = .ok (.iconst 0, 1) := by decide +kernel
theorem dX9_isMark_54 : decode cX9_isMark 54 = .ok (.ireturn, 1) := by decide +kernel
theorem dX9_bitsOf_0 : decode cX9_bitsOf 0 = .ok (.aload_n 0, 1) := by decide +kernel
theorem dX9_bitsOf_1 : decode cX9_bitsOf 1 = .ok (.iload_n 1, 1) := by decide +kernel
theorem dX9_bitsOf_2 : decode cX9_bitsOf 2 = .ok (.invokevirtual 82, 3) := by decide +kernel
theorem dX9_bitsOf_5 : decode cX9_bitsOf 5 = .ok (.ifCond .eq 23, 3) := by decide +kernel
theorem dX9_bitsOf_8 : decode cX9_bitsOf 8 = .ok (.aload_n 0, 1) := by decide +kernel
theorem dX9_bitsOf_9 : decode cX9_bitsOf 9 = .ok (.getfield 19, 3) := by decide +kernel
theorem dX9_bitsOf_12 : decode cX9_bitsOf 12 = .ok (.iload_n 1, 1) := by decide +kernel
theorem dX9_bitsOf_13 : decode cX9_bitsOf 13 = .ok (.invokevirtual 53, 3) := by decide +kernel
theorem dX9_bitsOf_16 : decode cX9_bitsOf 16 = .ok (.checkcast 46, 3) := by decide +kernel
theorem dX9_bitsOf_19 : decode cX9_bitsOf 19 = .ok (.invokestatic 67, 3) := by decide +kernel
theorem dX9_bitsOf_22 : decode cX9_bitsOf 22 = .ok (.invokestatic 71, 3) := by decide +kernel
theorem dX9_bitsOf_25 : decode cX9_bitsOf 25 = .ok (.goto 11, 3) := by decide +kernel
theorem dX9_bitsOf_28 : decode cX9_bitsOf 28 = .ok (.aload_n 0, 1) := by decide +kernel
theorem dX9_bitsOf_29 : decode cX9_bitsOf 29 = .ok (.iload_n 1, 1) := by decide +kernel
theorem dX9_bitsOf_30 : decode cX9_bitsOf 30 = .ok (.invokevirtual 75, 3) := by decide +kernel
theorem dX9_bitsOf_33 : decode cX9_bitsOf 33 = .ok (.invokestatic 79, 3) := by decide +kernel
theorem dX9_bitsOf_36 : decode cX9_bitsOf 36 = .ok (.ireturn, 1) := by decide +kernel
theorem dL_read_0 : decode cL_read 0 = .ok (.aload_n 1, 1) := by decide +kernel
theorem dL_read_1 : decode cL_read 1 = .ok (.arraylength, 1) := by decide +kernel
theorem dL_read_2 : decode cL_read 2 = .ok (.newarray .boolean, 2) := by decide +kernel
theorem dL_read_4 : decode cL_read 4 = .ok (.astore_n 2, 1) := by decide +kernel
theorem dL_read_5 : decode cL_read 5 = .ok (.iconst (-1), 1) := by decide +kernel
theorem dL_read_6 : decode cL_read 6 = .ok (.istore_n 3, 1) := by decide +kernel
theorem dL_read_7 : decode cL_read 7 = .ok (.iconst 0, 1) := by decide +kernel
theorem dL_read_8 : decode cL_read 8 = .ok (.istore 4, 2) := by decide +kernel
theorem dL_read_10 : decode cL_read 10 = .ok (.aload_n 0, 1) := by decide +kernel
theorem dL_read_11 : decode cL_read 11 = .ok (.invokevirtual 27, 3) := by decide +kernel
theorem dL_read_14 : decode cL_read 14 = .ok (.astore 5, 2) := by decide +kernel
theorem dL_read_16 : decode cL_read 16 = .ok (.aload 5, 2) := by decide +kernel
theorem dL_read_18 : decode cL_read 18 = .ok (.invokeinterface 31 1, 5) := by decide +kernel
theorem dL_read_23 : decode cL_read 23 = .ok (.ifCond .eq 219, 3) := by decide +kernel
theorem dL_read_26 : decode cL_read 26 = .ok (.aload 5, 2) := by decide +kernel
theorem dL_read_28 : decode cL_read 28 = .ok (.invokeinterface 37 1, 5) := by decide +kernel
theorem dL_read_33 : decode cL_read 33 = .ok (.checkcast 53, 3) := by decide +kernel
theorem dL_read_36 : decode cL_read 36 = .ok (.astore 6, 2) := by decide +kernel
theorem dL_read_38 : decode cL_read 38 = .ok (.iload_n 3, 1) := by decide +kernel
theorem dL_read_39 : decode cL_read 39 = .ok (.aload_n 2, 1) := by decide +kernel
theorem dL_read_40 : decode cL_read 40 = .ok (.arraylength, 1) := by decide +kernel
theorem dL_read_41 : decode cL_read 41 = .ok (.if_icmp .ne 5, 3) := by decide +kernel
theorem dL_read_44 : decode cL_read 44 = .ok (.aconst_null, 1) := by decide +kernel
theorem dL_read_45 : decode cL_read 45 = .ok (.areturn, 1) := by decide +kernel
theorem dL_read_46 : decode cL_read 46 = .ok (.aload_n 1, 1) := by decide +kernel
theorem dL_read_47 : decode cL_read 47 = .ok (.iload_n 3, 1) := by decide +kernel
theorem dL_read_48 : decode cL_read 48 = .ok (.iload 4, 2) := by decide +kernel
theorem dL_read_50 : decode cL_read 50 = .ok (.invokestatic 49, 3) := by decide +kernel
theorem dL_read_53 : decode cL_read 53 = .ok (.astore 7, 2) := by decide +kernel
theorem dL_read_55 : decode cL_read 55 = .ok (.iload_n 3, 1) := by decide +kernel
theorem dL_read_56 : decode cL_read 56 = .ok (.iconst 0, 1) := by decide +kernel
theorem dL_read_57 : decode cL_read 57 = .ok (.invokestatic 64, 3) := by decide +kernel
theorem dL_read_60 : decode cL_read 60 = .ok (.istore 8, 2) := by decide +kernel
theorem dL_read_62 : decode cL_read 62 = .ok (.aload 6, 2) := by decide +kernel
theorem dL_read_64 : decode cL_read 64 = .ok (.getfield 68, 3) := by decide +kernel
theorem dL_read_67 : decode cL_read 67 = .ok (.ifCond .ne 10, 3) := by decide +kernel
theorem dL_read_70 : decode cL_read 70 = .ok (.aload 7, 2) := by decide +kernel
theorem dL_read_72 : decode cL_read 72 = .ok (.iconst 1, 1) := by decide +kernel
theorem dL_read_73 : decode cL_read 73 = .ok (.iaload, 1) := by decide +kernel
theorem dL_read_74 : decode cL_read 74 = .ok (.goto 33, 3) := by decide +kernel
theorem dL_read_77 : decode cL_read 77 = .ok (.aload 6, 2) := by decide +kernel
theorem dL_read_79 : decode cL_read 79 = .ok (.getfield 68, 3) := by decide +kernel
theorem dL_read_82 : decode cL_read 82 = .ok (.iconst 1, 1) := by decide +kernel
theorem dL_read_83 : decode cL_read 83 = .ok (.if_icmp .ne 16, 3) := by decide +kernel
theorem dL_read_86 : decode cL_read 86 = .ok (.aload 7, 2) := by decide +kernel
theorem dL_read_88 : decode cL_read 88 = .ok (.iconst 0, 1) := by decide +kernel
theorem dL_read_89 : decode cL_read 89 = .ok (.iaload, 1) := by decide +kernel
theorem dL_read_90 : decode cL_read 90 = .ok (.aload 6, 2) := by decide +kernel
theorem dL_read_92 : decode cL_read 92 = .ok (.getfield 72, 3) := by decide +kernel
theorem dL_read_95 : decode cL_read 95 = .ok (.iadd, 1) := by decide +kernel
theorem dL_read_96 : decode cL_read 96 = .ok (.goto 11, 3) := by decide +kernel
theorem dL_read_99 : decode cL_read 99 = .ok (.iload 8, 2) := by decide +kernel
theorem dL_read_101 : decode cL_read 101 = .ok (.aload 6, 2) := by decide +kernel
theorem dL_read_103 : decode cL_read 103 = .ok (.getfield 72, 3) := by decide +kernel
theorem dL_read_106 : decode cL_read 106 = .ok (.iadd, 1) := by decide +kernel
theorem dL_read_107 : decode cL_read 107 = .ok (.istore 9, 2) := by decide +kernel
theorem dL_read_109 : decode cL_read 109 = .ok (.aload 6, 2) := by decide +kernel
theorem dL_read_111 : decode cL_read 111 = .ok (.getfield 68, 3) := by decide +kernel
theorem dL_read_114 : decode cL_read 114 = .ok (.iconst 2, 1) := by decide +kernel
theorem dL_read_115 : decode cL_read 115 = .ok (.if_icmp .ne 14, 3) := by decide +kernel
theorem dL_read_118 : decode cL_read 118 = .ok (.iload 9, 2) := by decide +kernel
theorem dL_read_120 : decode cL_read 120 = .ok (.aload 6, 2) := by decide +kernel
theorem dL_read_122 : decode cL_read 122 = .ok (.getfield 75, 3) := by decide +kernel
theorem dL_read_125 : decode cL_read 125 = .ok (.iadd, 1) := by decide +kernel
theorem dL_read_126 : decode cL_read 126 = .ok (.goto 5, 3) := by decide +kernel
theorem dL_read_129 : decode cL_read 129 = .ok (.iload 9, 2) := by decide +kernel
theorem dL_read_131 : decode cL_read 131 = .ok (.istore 10, 2) := by decide +kernel
theorem dL_read_133 : decode cL_read 133 = .ok (.aload 6, 2) := by decide +kernel
theorem dL_read_135 : decode cL_read 135 = .ok (.getfield 68, 3) := by decide +kernel
theorem dL_read_138 : decode cL_read 138 = .ok (.ifCond .le 18, 3) := by decide +kernel
theorem dL_read_141 : decode cL_read 141 = .ok (.iload 10, 2) := by decide +kernel
theorem dL_read_143 : decode cL_read 143 = .ok (.iload_n 3, 1) := by decide +kernel
theorem dL_read_144 : decode cL_read 144 = .ok (.if_icmp .le 10, 3) := by decide +kernel
theorem dL_read_147 : decode cL_read 147 = .ok (.iload 10, 2) := by decide +kernel
theorem dL_read_149 : decode cL_read 149 = .ok (.aload_n 2, 1) := by decide +kernel
theorem dL_read_150 : decode cL_read 150 = .ok (.arraylength, 1) := by decide +kernel
theorem dL_read_151 : decode cL_read 151 = .ok (.if_icmp .le 5, 3) := by decide +kernel
theorem dL_read_154 : decode cL_read 154 = .ok (.aconst_null, 1) := by decide +kernel
theorem dL_read_155 : decode cL_read 155 = .ok (.areturn, 1) := by decide +kernel
theorem dL_read_156 : decode cL_read 156 = .ok (.iload 8, 2) := by decide +kernel
theorem dL_read_158 : decode cL_read 158 = .ok (.istore 11, 2) := by decide +kernel
theorem dL_read_160 : decode cL_read 160 = .ok (.iload 11, 2) := by decide +kernel
theorem dL_read_162 : decode cL_read 162 = .ok (.iload 9, 2) := by decide +kernel
theorem dL_read_164 : decode cL_read 164 = .ok (.if_icmp .ge 15, 3) := by decide +kernel
theorem dL_read_167 : decode cL_read 167 = .ok (.aload_n 2, 1) := by decide +kernel
theorem dL_read_168 : decode cL_read 168 = .ok (.iload 11, 2) := by decide +kernel
theorem dL_read_170 : decode cL_read 170 = .ok (.iload 4, 2) := by decide +kernel
theorem dL_read_172 : decode cL_read 172 = .ok (.bastore, 1) := by decide +kernel
theorem dL_read_173 : decode cL_read 173 = .ok (.iinc 11 1, 3) := by decide +kernel
theorem dL_read_176 : decode cL_read 176 = .ok (.goto (-16), 3) := by decide +kernel
theorem dL_read_179 : decode cL_read 179 = .ok (.iload 9, 2) := by decide +kernel
theorem dL_read_181 : decode cL_read 181 = .ok (.istore 11, 2) := by decide +kernel
theorem dL_read_183 : decode cL_read 183 = .ok (.iload 11, 2) := by decide +kernel
theorem dL_read_185 : decode cL_read 185 = .ok (.iload 10, 2) := by decide +kernel
theorem dL_read_187 : decode cL_read 187 = .ok (.if_icmp .ge 23, 3) := by decide +kernel
theorem dL_read_190 : decode cL_read 190 = .ok (.aload_n 2, 1) := by decide +kernel
theorem dL_read_191 : decode cL_read 191 = .ok (.iload 11, 2) := by decide +kernel
theorem dL_read_193 : decode cL_read 193 = .ok (.iload 4, 2) := by decide +kernel
theorem dL_read_195 : decode cL_read 195 = .ok (.ifCond .ne 7, 3) := by decide +kernel
theorem dL_read_198 : decode cL_read 198 = .ok (.iconst 1, 1) := by decide +kernel
theorem dL_read_199 : decode cL_read 199 = .ok (.goto 4, 3) := by decide +kernel
theorem dL_read_202 : decode cL_read 202 = .ok (.iconst 0, 1) := by decide +kernel
theorem dL_read_203 : decode cL_read 203 = .ok (.bastore, 1) := by decide +kernel
theorem dL_read_204 : decode cL_read 204 = .ok (.iinc 11 1, 3) := by decide +kernel
theorem dL_read_207 : decode cL_read 207 = .ok (.goto (-24), 3) := by decide +kernel
theorem dL_read_210 : decode cL_read 210 = .ok (.iload 10, 2) := by decide +kernel
theorem dL_read_212 : decode cL_read 212 = .ok (.istore_n 3, 1) := by decide +kernel
theorem dL_read_213 : decode cL_read 213 = .ok (.aload 6, 2) := by decide +kernel
theorem dL_read_215 : decode cL_read 215 = .ok (.getfield 68, 3) := by decide +kernel
theorem dL_read_218 : decode cL_read 218 = .ok (.iconst 1, 1) := by decide +kernel
theorem dL_read_219 : decode cL_read 219 = .ok (.if_icmp .ne 7, 3) := by decide +kernel
theorem dL_read_222 : decode cL_read 222 = .ok (.iconst 1, 1) := by decide +kernel
theorem dL_read_223 : decode cL_read 223 = .ok (.goto 4, 3) := by decide +kernel
theorem dL_read_226 : decode cL_read 226 = .ok (.iconst 0, 1) := by decide +kernel
theorem dL_read_227 : decode cL_read 227 = .ok (.iload 4, 2) := by decide +kernel
theorem dL_read_229 : decode cL_read 229 = .ok (.if_icmp .eq 7, 3) := by decide +kernel
theorem dL_read_232 : decode cL_read 232 = .ok (.iconst 1, 1) := by decide +kernel
theorem dL_read_233 : decode cL_read 233 = .ok (.goto 4, 3) := by decide +kernel
theorem dL_read_236 : decode cL_read 236 = .ok (.iconst 0, 1) := by decide +kernel
theorem dL_read_237 : decode cL_read 237 = .ok (.istore 4, 2) := by decide +kernel
theorem dL_read_239 : decode cL_read 239 = .ok (.goto (-223), 3) := by decide +kernel
theorem dL_read_242 : decode cL_read 242 = .ok (.iload_n 3, 1) := by decide +kernel
theorem dL_read_243 : decode cL_read 243 = .ok (.aload_n 2, 1) := by decide +kernel
theorem dL_read_244 : decode cL_read 244 = .ok (.arraylength, 1) := by decide +kernel
theorem dL_read_245 : decode cL_read 245 = .ok (.if_icmp .ne 7, 3) := by decide +kernel
theorem dL_read_248 : decode cL_read 248 = .ok (.aload_n 2, 1) := by decide +kernel
theorem dL_read_249 : decode cL_read 249 = .ok (.goto 4, 3) := by decide +kernel
theorem dL_read_252 : decode cL_read 252 = .ok (.aconst_null, 1) := by decide +kernel
theorem dL_read_253 : decode cL_read 253 = .ok (.areturn, 1) := by decide +kernel
theorem dL_isLike_0 : decode cL_isLike 0 = .ok (.aload_n 1, 1) := by decide +kernel
theorem dL_isLike_1 : decode cL_isLike 1 = .ok (.getfield 84, 3) := by decide +kernel
theorem dL_isLike_4 : decode cL_isLike 4 = .ok (.invokevirtual 90, 3) := by decide +kernel
theorem dL_isLike_7 : decode cL_isLike 7 = .ok (.istore_n 2, 1) := by decide +kernel
theorem dL_isLike_8 : decode cL_isLike 8 = .ok (.aload_n 0, 1) := by decide +kernel
theorem dL_isLike_9 : decode cL_isLike 9 = .ok (.bipush 6, 2) := by decide +kernel
theorem dL_isLike_11 : decode cL_isLike 11 = .ok (.invokevirtual 93, 3) := by decide +kernel
theorem dL_isLike_14 : decode cL_isLike 14 = .ok (.aload_n 1, 1) := by decide +kernel
theorem dL_isLike_15 : decode cL_isLike 15 = .ok (.getfield 98, 3) := by decide +kernel
theorem dL_isLike_18 : decode cL_isLike 18 = .ok (.if_icmp .ne 13, 3) := by decide +kernel
theorem dL_isLike_21 : decode cL_isLike 21 = .ok (.aload_n 0, 1) := by decide +kernel
theorem dL_isLike_22 : decode cL_isLike 22 = .ok (.bipush 7, 2) := by decide +kernel
theorem dL_isLike_24 : decode cL_isLike 24 = .ok (.invokevirtual 93, 3) := by decide +kernel
theorem dL_isLike_27 : decode cL_isLike 27 = .ok (.iload_n 2, 1) := by decide +kernel
theorem dL_isLike_28 : decode cL_isLike 28 = .ok (.if_icmp .eq 5, 3) := by decide +kernel
theorem dL_isLike_31 : decode cL_isLike 31 = .ok (.iconst 0, 1) := by decide +kernel
theorem dL_isLike_32 : decode cL_isLike 32 = .ok (.ireturn, 1) := by decide +kernel
theorem dL_isLike_33 : decode cL_isLike 33 = .ok (.iconst 0, 1) := by decide +kernel
theorem dL_isLike_34 : decode cL_isLike 34 = .ok (.istore_n 3, 1) := by decide +kernel
theorem dL_isLike_35 : decode cL_isLike 35 = .ok (.iload_n 3, 1) := by decide +kernel
theorem dL_isLike_36 : decode cL_isLike 36 = .ok (.bipush 6, 2) := by decide +kernel
theorem dL_isLike_38 : decode cL_isLike 38 = .ok (.if_icmp .ge 25, 3) := by decide +kernel
theorem dL_isLike_41 : decode cL_isLike 41 = .ok (.aload_n 0, 1) := by decide +kernel
theorem dL_isLike_42 : decode cL_isLike 42 = .ok (.iload_n 3, 1) := by decide +kernel
theorem dL_isLike_43 : decode cL_isLike 43 = .ok (.invokevirtual 93, 3) := by decide +kernel
theorem dL_isLike_46 : decode cL_isLike 46 = .ok (.aload_n 1, 1) := by decide +kernel
theorem dL_isLike_47 : decode cL_isLike 47 = .ok (.getfield 101, 3) := by decide +kernel
theorem dL_isLike_50 : decode cL_isLike 50 = .ok (.iload_n 3, 1) := by decide +kernel
theorem dL_isLike_51 : decode cL_isLike 51 = .ok (.iaload, 1) := by decide +kernel
theorem dL_isLike_52 : decode cL_isLike 52 = .ok (.if_icmp .eq 5, 3) := by decide +kernel
theorem dL_isLike_55 : decode cL_isLike 55 = .ok (.iconst 0, 1) := by decide +kernel
theorem dL_isLike_56 : decode cL_isLike 56 = .ok (.ireturn, 1) := by decide +kernel
theorem dL_isLike_57 : decode cL_isLike 57 = .ok (.iinc 3 1, 3) := by decide +kernel
theorem dL_isLike_60 : decode cL_isLike 60 = .ok (.goto (-25), 3) := by decide +kernel
theorem dL_isLike_63 : decode cL_isLike 63 = .ok (.iconst 0, 1) := by decide +kernel
theorem dL_isLike_64 : decode cL_isLike 64 = .ok (.istore_n 3, 1) := by decide +kernel
theorem dL_isLike_65 : decode cL_isLike 65 = .ok (.iload_n 3, 1) := by decide +kernel
theorem dL_isLike_66 : decode cL_isLike 66 = .ok (.iload_n 2, 1) := by decide +kernel
theorem dL_isLike_67 : decode cL_isLike 67 = .ok (.if_icmp .ge 445, 3) := by decide +kernel
theorem dL_isLike_70 : decode cL_isLike 70 = .ok (.iconst 0, 1) := by decide +kernel
theorem dL_isLike_71 : decode cL_isLike 71 = .ok (.istore 4, 2) := by decide +kernel
theorem dL_isLike_73 : decode cL_isLike 73 = .ok (.iload 4, 2) := by decide +kernel
theorem dL_isLike_75 : decode cL_isLike 75 = .ok (.aload_n 1, 1) := by decide +kernel
theorem dL_isLike_76 : decode cL_isLike 76 = .ok (.getfield 98, 3) := by decide +kernel
theorem dL_isLike_79 : decode cL_isLike 79 = .ok (.if_icmp .ge 43, 3) := by decide +kernel
theorem dL_isLike_82 : decode cL_isLike 82 = .ok (.aload_n 0, 1) := by decide +kernel
theorem dL_isLike_83 : decode cL_isLike 83 = .ok (.iload_n 3, 1) := by decide +kernel
theorem dL_isLike_84 : decode cL_isLike 84 = .ok (.iload 4, 2) := by decide +kernel
theorem dL_isLike_86 : decode cL_isLike 86 = .ok (.invokevirtual 105, 3) := by decide +kernel
theorem dL_isLike_89 : decode cL_isLike 89 = .ok (.aload_n 1, 1) := by decide +kernel
theorem dL_isLike_90 : decode cL_isLike 90 = .ok (.getfield 84, 3) := by decide +kernel
theorem dL_isLike_93 : decode cL_isLike 93 = .ok (.iload_n 3, 1) := by decide +kernel
theorem dL_isLike_94 : decode cL_isLike 94 = .ok (.invokevirtual 108, 3) := by decide +kernel
theorem dL_isLike_97 : decode cL_isLike 97 = .ok (.checkcast 112, 3) := by decide +kernel
theorem dL_isLike_100 : decode cL_isLike 100 = .ok (.iload 4, 2) := by decide +kernel
theorem dL_isLike_102 : decode cL_isLike 102 = .ok (.baload, 1) := by decide +kernel
theorem dL_isLike_103 : decode cL_isLike 103 = .ok (.ifCond .eq 7, 3) := by decide +kernel
theorem dL_isLike_106 : decode cL_isLike 106 = .ok (.iconst 1, 1) := by decide +kernel
theorem dL_isLike_107 : decode cL_isLike 107 = .ok (.goto 4, 3) := by decide +kernel
theorem dL_isLike_110 : decode cL_isLike 110 = .ok (.iconst 0, 1) := by decide +kernel
theorem dL_isLike_111 : decode cL_isLike 111 = .ok (.if_icmp .eq 5, 3) := by decide +kernel
theorem dL_isLike_114 : decode cL_isLike 114 = .ok (.iconst 0, 1) := by decide +kernel
theorem dL_isLike_115 : decode cL_isLike 115 = .ok (.ireturn, 1) := by decide +kernel
theorem dL_isLike_116 : decode cL_isLike 116 = .ok (.iinc 4 1, 3) := by decide +kernel
theorem dL_isLike_119 : decode cL_isLike 119 = .ok (.goto (-46), 3) := by decide +kernel
theorem dL_isLike_122 : decode cL_isLike 122 = .ok (.aload_n 1, 1) := by decide +kernel
theorem dL_isLike_123 : decode cL_isLike 123 = .ok (.iload_n 3, 1) := by decide +kernel
theorem dL_isLike_124 : decode cL_isLike 124 = .ok (.invokevirtual 114, 3) := by decide +kernel
theorem dL_isLike_127 : decode cL_isLike 127 = .ok (.astore 4, 2) := by decide +kernel
theorem dL_isLike_129 : decode cL_isLike 129 = .ok (.aload_n 1, 1) := by decide +kernel
theorem dL_isLike_130 : decode cL_isLike 130 = .ok (.getfield 84, 3) := by decide +kernel
theorem dL_isLike_133 : decode cL_isLike 133 = .ok (.iload_n 3, 1) := by decide +kernel
theorem dL_isLike_134 : decode cL_isLike 134 = .ok (.invokevirtual 108, 3) := by decide +kernel
theorem dL_isLike_137 : decode cL_isLike 137 = .ok (.checkcast 112, 3) := by decide +kernel
theorem dL_isLike_140 : decode cL_isLike 140 = .ok (.invokestatic 118, 3) := by decide +kernel
theorem dL_isLike_143 : decode cL_isLike 143 = .ok (.astore 5, 2) := by decide +kernel
theorem dL_isLike_145 : decode cL_isLike 145 = .ok (.aload_n 0, 1) := by decide +kernel
theorem dL_isLike_146 : decode cL_isLike 146 = .ok (.iload_n 3, 1) := by decide +kernel
theorem dL_isLike_147 : decode cL_isLike 147 = .ok (.iconst 0, 1) := by decide +kernel
theorem dL_isLike_148 : decode cL_isLike 148 = .ok (.invokevirtual 121, 3) := by decide +kernel
theorem dL_isLike_151 : decode cL_isLike 151 = .ok (.aload_n 1, 1) := by decide +kernel
theorem dL_isLike_152 : decode cL_isLike 152 = .ok (.iload_n 3, 1) := by decide +kernel
theorem dL_isLike_153 : decode cL_isLike 153 = .ok (.invokevirtual 124, 3) := by decide +kernel
theorem dL_isLike_156 : decode cL_isLike 156 = .ok (.ifCond .eq 7, 3) := by decide +kernel
theorem dL_isLike_159 : decode cL_isLike 159 = .ok (.iconst 1, 1) := by decide +kernel
theorem dL_isLike_160 : decode cL_isLike 160 = .ok (.goto 4, 3) := by decide +kernel
theorem dL_isLike_163 : decode cL_isLike 163 = .ok (.iconst 0, 1) := by decide +kernel
theorem dL_isLike_164 : decode cL_isLike 164 = .ok (.if_icmp .ne 89, 3) := by decide +kernel
theorem dL_isLike_167 : decode cL_isLike 167 = .ok (.aload_n 0, 1) := by decide +kernel
theorem dL_isLike_168 : decode cL_isLike 168 = .ok (.iload_n 3, 1) := by decide +kernel
theorem dL_isLike_169 : decode cL_isLike 169 = .ok (.iconst 1, 1) := by decide +kernel
theorem dL_isLike_170 : decode cL_isLike 170 = .ok (.invokevirtual 121, 3) := by decide +kernel
theorem dL_isLike_173 : decode cL_isLike 173 = .ok (.aload 5, 2) := by decide +kernel
theorem dL_isLike_175 : decode cL_isLike 175 = .ok (.invokestatic 128, 3) := by decide +kernel
theorem dL_isLike_178 : decode cL_isLike 178 = .ok (.if_icmp .ne 75, 3) := by decide +kernel
theorem dL_isLike_181 : decode cL_isLike 181 = .ok (.aload_n 0, 1) := by decide +kernel
theorem dL_isLike_182 : decode cL_isLike 182 = .ok (.iload_n 3, 1) := by decide +kernel
theorem dL_isLike_183 : decode cL_isLike 183 = .ok (.iconst 2, 1) := by decide +kernel
theorem dL_isLike_184 : decode cL_isLike 184 = .ok (.invokevirtual 121, 3) := by decide +kernel
theorem dL_isLike_187 : decode cL_isLike 187 = .ok (.aload 4, 2) := by decide +kernel
theorem dL_isLike_189 : decode cL_isLike 189 = .ok (.invokestatic 131, 3) := by decide +kernel
theorem dL_isLike_192 : decode cL_isLike 192 = .ok (.if_icmp .ne 61, 3) := by decide +kernel
theorem dL_isLike_195 : decode cL_isLike 195 = .ok (.aload_n 0, 1) := by decide +kernel
theorem dL_isLike_196 : decode cL_isLike 196 = .ok (.iload_n 3, 1) := by decide +kernel
theorem dL_isLike_197 : decode cL_isLike 197 = .ok (.iconst 3, 1) := by decide +kernel
theorem dL_isLike_198 : decode cL_isLike 198 = .ok (.invokevirtual 121, 3) := by decide +kernel
theorem dL_isLike_201 : decode cL_isLike 201 = .ok (.aload_n 1, 1) := by decide +kernel
theorem dL_isLike_202 : decode cL_isLike 202 = .ok (.iload_n 3, 1) := by decide +kernel
theorem dL_isLike_203 : decode cL_isLike 203 = .ok (.invokevirtual 134, 3) := by decide +kernel
theorem dL_isLike_206 : decode cL_isLike 206 = .ok (.if_icmp .ne 47, 3) := by decide +kernel
theorem dL_isLike_209 : decode cL_isLike 209 = .ok (.aload_n 0, 1) := by decide +kernel
theorem dL_isLike_210 : decode cL_isLike 210 = .ok (.iload_n 3, 1) := by decide +kernel
theorem dL_isLike_211 : decode cL_isLike 211 = .ok (.iconst 4, 1) := by decide +kernel
theorem dL_isLike_212 : decode cL_isLike 212 = .ok (.invokevirtual 121, 3) := by decide +kernel
theorem dL_isLike_215 : decode cL_isLike 215 = .ok (.aload 5, 2) := by decide +kernel
theorem dL_isLike_217 : decode cL_isLike 217 = .ok (.invokevirtual 90, 3) := by decide +kernel
theorem dL_isLike_220 : decode cL_isLike 220 = .ok (.if_icmp .ne 33, 3) := by decide +kernel
theorem dL_isLike_223 : decode cL_isLike 223 = .ok (.aload_n 0, 1) := by decide +kernel
theorem dL_isLike_224 : decode cL_isLike 224 = .ok (.iload_n 3, 1) := by decide +kernel
theorem dL_isLike_225 : decode cL_isLike 225 = .ok (.iconst 5, 1) := by decide +kernel
theorem dL_isLike_226 : decode cL_isLike 226 = .ok (.invokevirtual 121, 3) := by decide +kernel
theorem dL_isLike_229 : decode cL_isLike 229 = .ok (.aload 4, 2) := by decide +kernel
theorem dL_isLike_231 : decode cL_isLike 231 = .ok (.invokevirtual 90, 3) := by decide +kernel
theorem dL_isLike_234 : decode cL_isLike 234 = .ok (.if_icmp .ne 19, 3) := by decide +kernel
theorem dL_isLike_237 : decode cL_isLike 237 = .ok (.aload_n 0, 1) := by decide +kernel
theorem dL_isLike_238 : decode cL_isLike 238 = .ok (.iload_n 3, 1) := by decide +kernel
theorem dL_isLike_239 : decode cL_isLike 239 = .ok (.bipush 9, 2) := by decide +kernel
theorem dL_isLike_241 : decode cL_isLike 241 = .ok (.invokevirtual 121, 3) := by decide +kernel
theorem dL_isLike_244 : decode cL_isLike 244 = .ok (.aload_n 1, 1) := by decide +kernel
theorem dL_isLike_245 : decode cL_isLike 245 = .ok (.getfield 135, 3) := by decide +kernel
theorem dL_isLike_248 : decode cL_isLike 248 = .ok (.iload_n 3, 1) := by decide +kernel
theorem dL_isLike_249 : decode cL_isLike 249 = .ok (.iaload, 1) := by decide +kernel
theorem dL_isLike_250 : decode cL_isLike 250 = .ok (.if_icmp .eq 5, 3) := by decide +kernel
theorem dL_isLike_253 : decode cL_isLike 253 = .ok (.iconst 0, 1) := by decide +kernel
theorem dL_isLike_254 : decode cL_isLike 254 = .ok (.ireturn, 1) := by decide +kernel
theorem dL_isLike_255 : decode cL_isLike 255 = .ok (.iconst 0, 1) := by decide +kernel
theorem dL_isLike_256 : decode cL_isLike 256 = .ok (.istore 6, 2) := by decide +kernel
theorem dL_isLike_258 : decode cL_isLike 258 = .ok (.iload 6, 2) := by decide +kernel
theorem dL_isLike_260 : decode cL_isLike 260 = .ok (.aload 5, 2) := by decide +kernel
theorem dL_isLike_262 : decode cL_isLike 262 = .ok (.invokevirtual 90, 3) := by decide +kernel
theorem dL_isLike_265 : decode cL_isLike 265 = .ok (.if_icmp .ge 34, 3) := by decide +kernel
theorem dL_isLike_268 : decode cL_isLike 268 = .ok (.aload_n 0, 1) := by decide +kernel
theorem dL_isLike_269 : decode cL_isLike 269 = .ok (.iload_n 3, 1) := by decide +kernel
theorem dL_isLike_270 : decode cL_isLike 270 = .ok (.iload 6, 2) := by decide +kernel
theorem dL_isLike_272 : decode cL_isLike 272 = .ok (.invokevirtual 138, 3) := by decide +kernel
theorem dL_isLike_275 : decode cL_isLike 275 = .ok (.aload 5, 2) := by decide +kernel
theorem dL_isLike_277 : decode cL_isLike 277 = .ok (.iload 6, 2) := by decide +kernel
theorem dL_isLike_279 : decode cL_isLike 279 = .ok (.invokevirtual 108, 3) := by decide +kernel
theorem dL_isLike_282 : decode cL_isLike 282 = .ok (.checkcast 12, 3) := by decide +kernel
theorem dL_isLike_285 : decode cL_isLike 285 = .ok (.invokevirtual 41, 3) := by decide +kernel
theorem dL_isLike_288 : decode cL_isLike 288 = .ok (.if_icmp .eq 5, 3) := by decide +kernel
theorem dL_isLike_291 : decode cL_isLike 291 = .ok (.iconst 0, 1) := by decide +kernel
theorem dL_isLike_292 : decode cL_isLike 292 = .ok (.ireturn, 1) := by decide +kernel
theorem dL_isLike_293 : decode cL_isLike 293 = .ok (.iinc 6 1, 3) := by decide +kernel
theorem dL_isLike_296 : decode cL_isLike 296 = .ok (.goto (-38), 3) := by decide +kernel
theorem dL_isLike_299 : decode cL_isLike 299 = .ok (.iconst 0, 1) := by decide +kernel
theorem dL_isLike_300 : decode cL_isLike 300 = .ok (.istore 6, 2) := by decide +kernel
theorem dL_isLike_302 : decode cL_isLike 302 = .ok (.iload 6, 2) := by decide +kernel
theorem dL_isLike_304 : decode cL_isLike 304 = .ok (.aload 4, 2) := by decide +kernel
theorem dL_isLike_306 : decode cL_isLike 306 = .ok (.invokevirtual 90, 3) := by decide +kernel
theorem dL_isLike_309 : decode cL_isLike 309 = .ok (.if_icmp .ge 87, 3) := by decide +kernel
theorem dL_isLike_312 : decode cL_isLike 312 = .ok (.aload 4, 2) := by decide +kernel
theorem dL_isLike_314 : decode cL_isLike 314 = .ok (.iload 6, 2) := by decide +kernel
theorem dL_isLike_316 : decode cL_isLike 316 = .ok (.invokevirtual 108, 3) := by decide +kernel
theorem dL_isLike_319 : decode cL_isLike 319 = .ok (.checkcast 53, 3) := by decide +kernel
theorem dL_isLike_322 : decode cL_isLike 322 = .ok (.astore 7, 2) := by decide +kernel
theorem dL_isLike_324 : decode cL_isLike 324 = .ok (.aload_n 0, 1) := by decide +kernel
theorem dL_isLike_325 : decode cL_isLike 325 = .ok (.iload_n 3, 1) := by decide +kernel
theorem dL_isLike_326 : decode cL_isLike 326 = .ok (.iload 6, 2) := by decide +kernel
theorem dL_isLike_328 : decode cL_isLike 328 = .ok (.iconst 0, 1) := by decide +kernel
theorem dL_isLike_329 : decode cL_isLike 329 = .ok (.invokevirtual 141, 3) := by decide +kernel
theorem dL_isLike_332 : decode cL_isLike 332 = .ok (.aload 7, 2) := by decide +kernel
theorem dL_isLike_334 : decode cL_isLike 334 = .ok (.getfield 68, 3) := by decide +kernel
theorem dL_isLike_337 : decode cL_isLike 337 = .ok (.if_icmp .ne 51, 3) := by decide +kernel
theorem dL_isLike_340 : decode cL_isLike 340 = .ok (.aload_n 0, 1) := by decide +kernel
theorem dL_isLike_341 : decode cL_isLike 341 = .ok (.iload_n 3, 1) := by decide +kernel
theorem dL_isLike_342 : decode cL_isLike 342 = .ok (.iload 6, 2) := by decide +kernel
theorem dL_isLike_344 : decode cL_isLike 344 = .ok (.iconst 1, 1) := by decide +kernel
theorem dL_isLike_345 : decode cL_isLike 345 = .ok (.invokevirtual 141, 3) := by decide +kernel
theorem dL_isLike_348 : decode cL_isLike 348 = .ok (.aload 7, 2) := by decide +kernel
theorem dL_isLike_350 : decode cL_isLike 350 = .ok (.getfield 72, 3) := by decide +kernel
theorem dL_isLike_353 : decode cL_isLike 353 = .ok (.if_icmp .ne 35, 3) := by decide +kernel
theorem dL_isLike_356 : decode cL_isLike 356 = .ok (.aload_n 0, 1) := by decide +kernel
theorem dL_isLike_357 : decode cL_isLike 357 = .ok (.iload_n 3, 1) := by decide +kernel
theorem dL_isLike_358 : decode cL_isLike 358 = .ok (.iload 6, 2) := by decide +kernel
theorem dL_isLike_360 : decode cL_isLike 360 = .ok (.iconst 2, 1) := by decide +kernel
theorem dL_isLike_361 : decode cL_isLike 361 = .ok (.invokevirtual 141, 3) := by decide +kernel
theorem dL_isLike_364 : decode cL_isLike 364 = .ok (.aload 7, 2) := by decide +kernel
theorem dL_isLike_366 : decode cL_isLike 366 = .ok (.getfield 75, 3) := by decide +kernel
theorem dL_isLike_369 : decode cL_isLike 369 = .ok (.if_icmp .ne 19, 3) := by decide +kernel
theorem dL_isLike_372 : decode cL_isLike 372 = .ok (.aload_n 0, 1) := by decide +kernel
theorem dL_isLike_373 : decode cL_isLike 373 = .ok (.iload_n 3, 1) := by decide +kernel
theorem dL_isLike_374 : decode cL_isLike 374 = .ok (.iload 6, 2) := by decide +kernel
theorem dL_isLike_376 : decode cL_isLike 376 = .ok (.iconst 3, 1) := by decide +kernel
theorem dL_isLike_377 : decode cL_isLike 377 = .ok (.invokevirtual 141, 3) := by decide +kernel
theorem dL_isLike_380 : decode cL_isLike 380 = .ok (.aload 7, 2) := by decide +kernel
theorem dL_isLike_382 : decode cL_isLike 382 = .ok (.getfield 145, 3) := by decide +kernel
theorem dL_isLike_385 : decode cL_isLike 385 = .ok (.if_icmp .eq 5, 3) := by decide +kernel
theorem dL_isLike_388 : decode cL_isLike 388 = .ok (.iconst 0, 1) := by decide +kernel
theorem dL_isLike_389 : decode cL_isLike 389 = .ok (.ireturn, 1) := by decide +kernel
theorem dL_isLike_390 : decode cL_isLike 390 = .ok (.iinc 6 1, 3) := by decide +kernel
theorem dL_isLike_393 : decode cL_isLike 393 = .ok (.goto (-91), 3) := by decide +kernel
theorem dL_isLike_396 : decode cL_isLike 396 = .ok (.aload_n 0, 1) := by decide +kernel
theorem dL_isLike_397 : decode cL_isLike 397 = .ok (.iload_n 3, 1) := by decide +kernel
theorem dL_isLike_398 : decode cL_isLike 398 = .ok (.aload 5, 2) := by decide +kernel
theorem dL_isLike_400 : decode cL_isLike 400 = .ok (.invokevirtual 90, 3) := by decide +kernel
theorem dL_isLike_403 : decode cL_isLike 403 = .ok (.invokevirtual 138, 3) := by decide +kernel
theorem dL_isLike_406 : decode cL_isLike 406 = .ok (.iconst (-1), 1) := by decide +kernel
theorem dL_isLike_407 : decode cL_isLike 407 = .ok (.if_icmp .ne 19, 3) := by decide +kernel
theorem dL_isLike_410 : decode cL_isLike 410 = .ok (.aload_n 0, 1) := by decide +kernel
theorem dL_isLike_411 : decode cL_isLike 411 = .ok (.iload_n 3, 1) := by decide +kernel
theorem dL_isLike_412 : decode cL_isLike 412 = .ok (.aload 4, 2) := by decide +kernel
theorem dL_isLike_414 : decode cL_isLike 414 = .ok (.invokevirtual 90, 3) := by decide +kernel
theorem dL_isLike_417 : decode cL_isLike 417 = .ok (.iconst 0, 1) := by decide +kernel
theorem dL_isLike_418 : decode cL_isLike 418 = .ok (.invokevirtual 141, 3) := by decide +kernel
theorem dL_isLike_421 : decode cL_isLike 421 = .ok (.bipush (-9), 2) := by decide +kernel
theorem dL_isLike_423 : decode cL_isLike 423 = .ok (.if_icmp .eq 5, 3) := by decide +kernel
theorem dL_isLike_426 : decode cL_isLike 426 = .ok (.iconst 0, 1) := by decide +kernel
theorem dL_isLike_427 : decode cL_isLike 427 = .ok (.ireturn, 1) := by decide +kernel
theorem dL_isLike_428 : decode cL_isLike 428 = .ok (.aload 4, 2) := by decide +kernel
theorem dL_isLike_430 : decode cL_isLike 430 = .ok (.aload_n 1, 1) := by decide +kernel
theorem dL_isLike_431 : decode cL_isLike 431 = .ok (.aload_n 1, 1) := by decide +kernel
theorem dL_isLike_432 : decode cL_isLike 432 = .ok (.getfield 84, 3) := by decide +kernel
theorem dL_isLike_435 : decode cL_isLike 435 = .ok (.iload_n 3, 1) := by decide +kernel
theorem dL_isLike_436 : decode cL_isLike 436 = .ok (.invokevirtual 148, 3) := by decide +kernel
theorem dL_isLike_439 : decode cL_isLike 439 = .ok (.invokestatic 152, 3) := by decide +kernel
theorem dL_isLike_442 : decode cL_isLike 442 = .ok (.astore 6, 2) := by decide +kernel
theorem dL_isLike_444 : decode cL_isLike 444 = .ok (.aload 6, 2) := by decide +kernel
theorem dL_isLike_446 : decode cL_isLike 446 = .ok (.ifnonnull 5, 3) := by decide +kernel
theorem dL_isLike_449 : decode cL_isLike 449 = .ok (.iconst 0, 1) := by decide +kernel
theorem dL_isLike_450 : decode cL_isLike 450 = .ok (.ireturn, 1) := by decide +kernel
theorem dL_isLike_451 : decode cL_isLike 451 = .ok (.iconst 0, 1) := by decide +kernel
theorem dL_isLike_452 : decode cL_isLike 452 = .ok (.istore 7, 2) := by decide +kernel
theorem dL_isLike_454 : decode cL_isLike 454 = .ok (.iload 7, 2) := by decide +kernel
theorem dL_isLike_456 : decode cL_isLike 456 = .ok (.aload_n 1, 1) := by decide +kernel
theorem dL_isLike_457 : decode cL_isLike 457 = .ok (.getfield 98, 3) := by decide +kernel
theorem dL_isLike_460 : decode cL_isLike 460 = .ok (.if_icmp .ge 33, 3) := by decide +kernel
theorem dL_isLike_463 : decode cL_isLike 463 = .ok (.aload 6, 2) := by decide +kernel
theorem dL_isLike_465 : decode cL_isLike 465 = .ok (.iload 7, 2) := by decide +kernel
theorem dL_isLike_467 : decode cL_isLike 467 = .ok (.baload, 1) := by decide +kernel
theorem dL_isLike_468 : decode cL_isLike 468 = .ok (.aload_n 1, 1) := by decide +kernel
theorem dL_isLike_469 : decode cL_isLike 469 = .ok (.getfield 84, 3) := by decide +kernel
theorem dL_isLike_472 : decode cL_isLike 472 = .ok (.iload_n 3, 1) := by decide +kernel
theorem dL_isLike_473 : decode cL_isLike 473 = .ok (.invokevirtual 108, 3) := by decide +kernel
theorem dL_isLike_476 : decode cL_isLike 476 = .ok (.checkcast 112, 3) := by decide +kernel
theorem dL_isLike_479 : decode cL_isLike 479 = .ok (.iload 7, 2) := by decide +kernel
theorem dL_isLike_481 : decode cL_isLike 481 = .ok (.baload, 1) := by decide +kernel
theorem dL_isLike_482 : decode cL_isLike 482 = .ok (.if_icmp .eq 5, 3) := by decide +kernel
theorem dL_isLike_485 : decode cL_isLike 485 = .ok (.iconst 0, 1) := by decide +kernel
theorem dL_isLike_486 : decode cL_isLike 486 = .ok (.ireturn, 1) := by decide +kernel
theorem dL_isLike_487 : decode cL_isLike 487 = .ok (.iinc 7 1, 3) := by decide +kernel
theorem dL_isLike_490 : decode cL_isLike 490 = .ok (.goto (-36), 3) := by decide +kernel
theorem dL_isLike_493 : decode cL_isLike 493 = .ok (.aload_n 0, 1) := by decide +kernel
theorem dL_isLike_494 : decode cL_isLike 494 = .ok (.iload_n 3, 1) := by decide +kernel
theorem dL_isLike_495 : decode cL_isLike 495 = .ok (.iload_n 3, 1) := by decide +kernel
theorem dL_isLike_496 : decode cL_isLike 496 = .ok (.iconst 1, 1) := by decide +kernel
theorem dL_isLike_497 : decode cL_isLike 497 = .ok (.isub, 1) := by decide +kernel
theorem dL_isLike_498 : decode cL_isLike 498 = .ok (.invokevirtual 156, 3) := by decide +kernel
theorem dL_isLike_501 : decode cL_isLike 501 = .ok (.ifCond .eq 5, 3) := by decide +kernel
theorem dL_isLike_504 : decode cL_isLike 504 = .ok (.iconst 0, 1) := by decide +kernel
theorem dL_isLike_505 : decode cL_isLike 505 = .ok (.ireturn, 1) := by decide +kernel
theorem dL_isLike_506 : decode cL_isLike 506 = .ok (.iinc 3 1, 3) := by decide +kernel
theorem dL_isLike_509 : decode cL_isLike 509 = .ok (.goto (-444), 3) := by decide +kernel
theorem dL_isLike_512 : decode cL_isLike 512 = .ok (.iconst 1, 1) := by decide +kernel
theorem dL_isLike_513 : decode cL_isLike 513 = .ok (.ireturn, 1) := by decide +kernel
theorem dJx4a65c_set_bcc79_0 : decode cJx4a65c_set_bcc79 0 = .ok (.iload_n 1, 1) := by decide +kernel
theorem dJx4a65c_set_bcc79_1 : decode cJx4a65c_set_bcc79 1 = .ok (.aload_n 0, 1) := by decide +kernel
theorem dJx4a65c_set_bcc79_2 : decode cJx4a65c_set_bcc79 2 = .ok (.getfield 48, 3) := by decide +kernel
theorem dJx4a65c_set_bcc79_5 : decode cJx4a65c_set_bcc79 5 = .ok (.invokestatic 118, 3) := by decide +kernel
theorem dJx4a65c_set_bcc79_8 : decode cJx4a65c_set_bcc79 8 = .ok (.pop, 1) := by decide +kernel
theorem dJx4a65c_set_bcc79_9 : decode cJx4a65c_set_bcc79 9 = .ok (.aload_n 0, 1) := by decide +kernel
theorem dJx4a65c_set_bcc79_10 : decode cJx4a65c_set_bcc79 10 = .ok (.iload_n 1, 1) := by decide +kernel
theorem dJx4a65c_set_bcc79_11 : decode cJx4a65c_set_bcc79 11 = .ok (.invokevirtual 123, 3) := by decide +kernel
theorem dJx4a65c_set_bcc79_14 : decode cJx4a65c_set_bcc79 14 = .ok (.astore_n 3, 1) := by decide +kernel
theorem dJx4a65c_set_bcc79_15 : decode cJx4a65c_set_bcc79 15 = .ok (.aload_n 0, 1) := by decide +kernel
theorem dJx4a65c_set_bcc79_16 : decode cJx4a65c_set_bcc79 16 = .ok (.getfield 9, 3) := by decide +kernel
theorem dJx4a65c_set_bcc79_19 : decode cJx4a65c_set_bcc79 19 = .ok (.iload_n 1, 1) := by decide +kernel
theorem dJx4a65c_set_bcc79_20 : decode cJx4a65c_set_bcc79 20 = .ok (.aload_n 2, 1) := by decide +kernel
theorem dJx4a65c_set_bcc79_21 : decode cJx4a65c_set_bcc79 21 = .ok (.aastore, 1) := by decide +kernel
theorem dJx4a65c_set_bcc79_22 : decode cJx4a65c_set_bcc79 22 = .ok (.aload_n 3, 1) := by decide +kernel
theorem dJx4a65c_set_bcc79_23 : decode cJx4a65c_set_bcc79 23 = .ok (.areturn, 1) := by decide +kernel
theorem dX9_wrong_0 : decode cX9_wrong 0 = .ok (.iconst 0, 1) := by decide +kernel
theorem dX9_wrong_1 : decode cX9_wrong 1 = .ok (.istore_n 2, 1) := by decide +kernel
theorem dX9_wrong_2 : decode cX9_wrong 2 = .ok (.iconst 0, 1) := by decide +kernel
theorem dX9_wrong_3 : decode cX9_wrong 3 = .ok (.istore_n 3, 1) := by decide +kernel
theorem dX9_wrong_4 : decode cX9_wrong 4 = .ok (.iload_n 3, 1) := by decide +kernel
theorem dX9_wrong_5 : decode cX9_wrong 5 = .ok (.aload_n 0, 1) := by decide +kernel
theorem dX9_wrong_6 : decode cX9_wrong 6 = .ok (.getfield 24, 3) := by decide +kernel
theorem dX9_wrong_9 : decode cX9_wrong 9 = .ok (.if_icmp .ge 46, 3) := by decide +kernel
theorem dX9_wrong_12 : decode cX9_wrong 12 = .ok (.iload_n 2, 1) := by decide +kernel
theorem dX9_wrong_13 : decode cX9_wrong 13 = .ok (.aload_n 0, 1) := by decide +kernel
theorem dX9_wrong_14 : decode cX9_wrong 14 = .ok (.getfield 86, 3) := by decide +kernel
theorem dX9_wrong_17 : decode cX9_wrong 17 = .ok (.iload_n 1, 1) := by decide +kernel
theorem dX9_wrong_18 : decode cX9_wrong 18 = .ok (.invokevirtual 53, 3) := by decide +kernel
theorem dX9_wrong_21 : decode cX9_wrong 21 = .ok (.checkcast 46, 3) := by decide +kernel
theorem dX9_wrong_24 : decode cX9_wrong 24 = .ok (.iload_n 3, 1) := by decide +kernel
theorem dX9_wrong_25 : decode cX9_wrong 25 = .ok (.baload, 1) := by decide +kernel
theorem dX9_wrong_26 : decode cX9_wrong 26 = .ok (.aload_n 0, 1) := by decide +kernel
theorem dX9_wrong_27 : decode cX9_wrong 27 = .ok (.getfield 19, 3) := by decide +kernel
theorem dX9_wrong_30 : decode cX9_wrong 30 = .ok (.iload_n 1, 1) := by decide +kernel
theorem dX9_wrong_31 : decode cX9_wrong 31 = .ok (.invokevirtual 53, 3) := by decide +kernel
theorem dX9_wrong_34 : decode cX9_wrong 34 = .ok (.checkcast 46, 3) := by decide +kernel
theorem dX9_wrong_37 : decode cX9_wrong 37 = .ok (.iload_n 3, 1) := by decide +kernel
theorem dX9_wrong_38 : decode cX9_wrong 38 = .ok (.baload, 1) := by decide +kernel
theorem dX9_wrong_39 : decode cX9_wrong 39 = .ok (.if_icmp .ne 7, 3) := by decide +kernel
theorem dX9_wrong_42 : decode cX9_wrong 42 = .ok (.iconst 0, 1) := by decide +kernel
theorem dX9_wrong_43 : decode cX9_wrong 43 = .ok (.goto 4, 3) := by decide +kernel
theorem dX9_wrong_46 : decode cX9_wrong 46 = .ok (.iconst 1, 1) := by decide +kernel
theorem dX9_wrong_47 : decode cX9_wrong 47 = .ok (.iadd, 1) := by decide +kernel
theorem dX9_wrong_48 : decode cX9_wrong 48 = .ok (.istore_n 2, 1) := by decide +kernel
theorem dX9_wrong_49 : decode cX9_wrong 49 = .ok (.iinc 3 1, 3) := by decide +kernel
theorem dX9_wrong_52 : decode cX9_wrong 52 = .ok (.goto (-48), 3) := by decide +kernel
theorem dX9_wrong_55 : decode cX9_wrong 55 = .ok (.iload_n 2, 1) := by decide +kernel
theorem dX9_wrong_56 : decode cX9_wrong 56 = .ok (.ireturn, 1) := by decide +kernel
theorem dX9_send_0 : decode cX9_send 0 = .ok (.aload_n 0, 1) := by decide +kernel
theorem dX9_send_1 : decode cX9_send 1 = .ok (.getfield 19, 3) := by decide +kernel
theorem dX9_send_4 : decode cX9_send 4 = .ok (.invokevirtual 89, 3) := by decide +kernel
theorem dX9_send_7 : decode cX9_send 7 = .ok (.istore_n 1, 1) := by decide +kernel
theorem dX9_send_8 : decode cX9_send 8 = .ok (.aload_n 0, 1) := by decide +kernel
theorem dX9_send_9 : decode cX9_send 9 = .ok (.new 16, 3) := by decide +kernel
theorem dX9_send_12 : decode cX9_send 12 = .ok (.dup, 1) := by decide +kernel
theorem dX9_send_13 : decode cX9_send 13 = .ok (.invokespecial 18, 3) := by decide +kernel
theorem dX9_send_16 : decode cX9_send 16 = .ok (.putfield 86, 3) := by decide +kernel
theorem dX9_send_19 : decode cX9_send 19 = .ok (.iconst 0, 1) := by decide +kernel
theorem dX9_send_20 : decode cX9_send 20 = .ok (.istore_n 2, 1) := by decide +kernel
theorem dX9_send_21 : decode cX9_send 21 = .ok (.iload_n 2, 1) := by decide +kernel
theorem dX9_send_22 : decode cX9_send 22 = .ok (.iload_n 1, 1) := by decide +kernel
theorem dX9_send_23 : decode cX9_send 23 = .ok (.if_icmp .ge 23, 3) := by decide +kernel
theorem dX9_send_26 : decode cX9_send 26 = .ok (.aload_n 0, 1) := by decide +kernel
theorem dX9_send_27 : decode cX9_send 27 = .ok (.getfield 86, 3) := by decide +kernel
theorem dX9_send_30 : decode cX9_send 30 = .ok (.aload_n 0, 1) := by decide +kernel
theorem dX9_send_31 : decode cX9_send 31 = .ok (.getfield 24, 3) := by decide +kernel
theorem dX9_send_34 : decode cX9_send 34 = .ok (.newarray .boolean, 2) := by decide +kernel
theorem dX9_send_36 : decode cX9_send 36 = .ok (.invokevirtual 49, 3) := by decide +kernel
theorem dX9_send_39 : decode cX9_send 39 = .ok (.pop, 1) := by decide +kernel
theorem dX9_send_40 : decode cX9_send 40 = .ok (.iinc 2 1, 3) := by decide +kernel
theorem dX9_send_43 : decode cX9_send 43 = .ok (.goto (-22), 3) := by decide +kernel
theorem dX9_send_46 : decode cX9_send 46 = .ok (.aload_n 0, 1) := by decide +kernel
theorem dX9_send_47 : decode cX9_send 47 = .ok (.iload_n 1, 1) := by decide +kernel
theorem dX9_send_48 : decode cX9_send 48 = .ok (.newarray .int, 2) := by decide +kernel
theorem dX9_send_50 : decode cX9_send 50 = .ok (.putfield 97, 3) := by decide +kernel
theorem dX9_send_53 : decode cX9_send 53 = .ok (.aload_n 0, 1) := by decide +kernel
theorem dX9_send_54 : decode cX9_send 54 = .ok (.iload_n 1, 1) := by decide +kernel
theorem dX9_send_55 : decode cX9_send 55 = .ok (.newarray .int, 2) := by decide +kernel
theorem dX9_send_57 : decode cX9_send 57 = .ok (.putfield 100, 3) := by decide +kernel
theorem dX9_send_60 : decode cX9_send 60 = .ok (.aload_n 0, 1) := by decide +kernel
theorem dX9_send_61 : decode cX9_send 61 = .ok (.iload_n 1, 1) := by decide +kernel
theorem dX9_send_62 : decode cX9_send 62 = .ok (.newarray .int, 2) := by decide +kernel
theorem dX9_send_64 : decode cX9_send 64 = .ok (.putfield 103, 3) := by decide +kernel
theorem dX9_send_67 : decode cX9_send 67 = .ok (.aload_n 0, 1) := by decide +kernel
theorem dX9_send_68 : decode cX9_send 68 = .ok (.iload_n 1, 1) := by decide +kernel
theorem dX9_send_69 : decode cX9_send 69 = .ok (.newarray .int, 2) := by decide +kernel
theorem dX9_send_71 : decode cX9_send 71 = .ok (.putfield 106, 3) := by decide +kernel
theorem dX9_send_74 : decode cX9_send 74 = .ok (.aload_n 0, 1) := by decide +kernel
theorem dX9_send_75 : decode cX9_send 75 = .ok (.iconst 0, 1) := by decide +kernel
theorem dX9_send_76 : decode cX9_send 76 = .ok (.putfield 109, 3) := by decide +kernel
theorem dX9_send_79 : decode cX9_send 79 = .ok (.aload_n 0, 1) := by decide +kernel
theorem dX9_send_80 : decode cX9_send 80 = .ok (.iconst 0, 1) := by decide +kernel
theorem dX9_send_81 : decode cX9_send 81 = .ok (.putfield 111, 3) := by decide +kernel
theorem dX9_send_84 : decode cX9_send 84 = .ok (.aload_n 0, 1) := by decide +kernel
theorem dX9_send_85 : decode cX9_send 85 = .ok (.iconst 0, 1) := by decide +kernel
theorem dX9_send_86 : decode cX9_send 86 = .ok (.putfield 114, 3) := by decide +kernel
theorem dX9_send_89 : decode cX9_send 89 = .ok (.aload_n 0, 1) := by decide +kernel
theorem dX9_send_90 : decode cX9_send 90 = .ok (.iconst 0, 1) := by decide +kernel
theorem dX9_send_91 : decode cX9_send 91 = .ok (.putfield 117, 3) := by decide +kernel
theorem dX9_send_94 : decode cX9_send 94 = .ok (.iconst 0, 1) := by decide +kernel
theorem dX9_send_95 : decode cX9_send 95 = .ok (.istore_n 2, 1) := by decide +kernel
theorem dX9_send_96 : decode cX9_send 96 = .ok (.iload_n 2, 1) := by decide +kernel
theorem dX9_send_97 : decode cX9_send 97 = .ok (.iload_n 1, 1) := by decide +kernel
theorem dX9_send_98 : decode cX9_send 98 = .ok (.if_icmp .ge 338, 3) := by decide +kernel
theorem dX9_send_101 : decode cX9_send 101 = .ok (.aload_n 0, 1) := by decide +kernel
theorem dX9_send_102 : decode cX9_send 102 = .ok (.getfield 7, 3) := by decide +kernel
theorem dX9_send_105 : decode cX9_send 105 = .ok (.iconst 4, 1) := by decide +kernel
theorem dX9_send_106 : decode cX9_send 106 = .ok (.iaload, 1) := by decide +kernel
theorem dX9_send_107 : decode cX9_send 107 = .ok (.aload_n 0, 1) := by decide +kernel
theorem dX9_send_108 : decode cX9_send 108 = .ok (.iload_n 2, 1) := by decide +kernel
theorem dX9_send_109 : decode cX9_send 109 = .ok (.invokevirtual 120, 3) := by decide +kernel
theorem dX9_send_112 : decode cX9_send 112 = .ok (.iadd, 1) := by decide +kernel
theorem dX9_send_113 : decode cX9_send 113 = .ok (.istore_n 3, 1) := by decide +kernel
theorem dX9_send_114 : decode cX9_send 114 = .ok (.aload_n 0, 1) := by decide +kernel
theorem dX9_send_115 : decode cX9_send 115 = .ok (.dup, 1) := by decide +kernel
theorem dX9_send_116 : decode cX9_send 116 = .ok (.getfield 109, 3) := by decide +kernel
theorem dX9_send_119 : decode cX9_send 119 = .ok (.iload_n 3, 1) := by decide +kernel
theorem dX9_send_120 : decode cX9_send 120 = .ok (.iadd, 1) := by decide +kernel
theorem dX9_send_121 : decode cX9_send 121 = .ok (.putfield 109, 3) := by decide +kernel
theorem dX9_send_124 : decode cX9_send 124 = .ok (.aload_n 0, 1) := by decide +kernel
theorem dX9_send_125 : decode cX9_send 125 = .ok (.getfield 103, 3) := by decide +kernel
theorem dX9_send_128 : decode cX9_send 128 = .ok (.iload_n 2, 1) := by decide +kernel
theorem dX9_send_129 : decode cX9_send 129 = .ok (.dup2, 1) := by decide +kernel
theorem dX9_send_130 : decode cX9_send 130 = .ok (.iaload, 1) := by decide +kernel
theorem dX9_send_131 : decode cX9_send 131 = .ok (.iload_n 3, 1) := by decide +kernel
theorem dX9_send_132 : decode cX9_send 132 = .ok (.iadd, 1) := by decide +kernel
theorem dX9_send_133 : decode cX9_send 133 = .ok (.iastore, 1) := by decide +kernel
theorem dX9_send_134 : decode cX9_send 134 = .ok (.aload_n 0, 1) := by decide +kernel
theorem dX9_send_135 : decode cX9_send 135 = .ok (.getfield 100, 3) := by decide +kernel
theorem dX9_send_138 : decode cX9_send 138 = .ok (.iload_n 2, 1) := by decide +kernel
theorem dX9_send_139 : decode cX9_send 139 = .ok (.dup2, 1) := by decide +kernel
theorem dX9_send_140 : decode cX9_send 140 = .ok (.iaload, 1) := by decide +kernel
theorem dX9_send_141 : decode cX9_send 141 = .ok (.iconst 1, 1) := by decide +kernel
theorem dX9_send_142 : decode cX9_send 142 = .ok (.iadd, 1) := by decide +kernel
theorem dX9_send_143 : decode cX9_send 143 = .ok (.iastore, 1) := by decide +kernel
theorem dX9_send_144 : decode cX9_send 144 = .ok (.aload_n 0, 1) := by decide +kernel
theorem dX9_send_145 : decode cX9_send 145 = .ok (.getfield 100, 3) := by decide +kernel
theorem dX9_send_148 : decode cX9_send 148 = .ok (.iload_n 2, 1) := by decide +kernel
theorem dX9_send_149 : decode cX9_send 149 = .ok (.iaload, 1) := by decide +kernel
theorem dX9_send_150 : decode cX9_send 150 = .ok (.aload_n 0, 1) := by decide +kernel
theorem dX9_send_151 : decode cX9_send 151 = .ok (.getfield 13, 3) := by decide +kernel
theorem dX9_send_154 : decode cX9_send 154 = .ok (.iload_n 2, 1) := by decide +kernel
theorem dX9_send_155 : decode cX9_send 155 = .ok (.iaload, 1) := by decide +kernel
theorem dX9_send_156 : decode cX9_send 156 = .ok (.if_icmp .gt 7, 3) := by decide +kernel
theorem dX9_send_159 : decode cX9_send 159 = .ok (.iconst 1, 1) := by decide +kernel
theorem dX9_send_160 : decode cX9_send 160 = .ok (.goto 4, 3) := by decide +kernel
theorem dX9_send_163 : decode cX9_send 163 = .ok (.iconst 0, 1) := by decide +kernel
theorem dX9_send_164 : decode cX9_send 164 = .ok (.istore 4, 2) := by decide +kernel
theorem dX9_send_166 : decode cX9_send 166 = .ok (.iload 4, 2) := by decide +kernel
theorem dX9_send_168 : decode cX9_send 168 = .ok (.ifCond .eq 7, 3) := by decide +kernel
theorem dX9_send_171 : decode cX9_send 171 = .ok (.aconst_null, 1) := by decide +kernel
theorem dX9_send_172 : decode cX9_send 172 = .ok (.goto 48, 3) := by decide +kernel
theorem dX9_send_175 : decode cX9_send 175 = .ok (.aload_n 0, 1) := by decide +kernel
theorem dX9_send_176 : decode cX9_send 176 = .ok (.iload_n 2, 1) := by decide +kernel
theorem dX9_send_177 : decode cX9_send 177 = .ok (.invokevirtual 82, 3) := by decide +kernel
theorem dX9_send_180 : decode cX9_send 180 = .ok (.ifCond .eq 23, 3) := by decide +kernel
theorem dX9_send_183 : decode cX9_send 183 = .ok (.aload_n 0, 1) := by decide +kernel
theorem dX9_send_184 : decode cX9_send 184 = .ok (.getfield 19, 3) := by decide +kernel
theorem dX9_send_187 : decode cX9_send 187 = .ok (.iload_n 2, 1) := by decide +kernel
theorem dX9_send_188 : decode cX9_send 188 = .ok (.invokevirtual 53, 3) := by decide +kernel
theorem dX9_send_191 : decode cX9_send 191 = .ok (.checkcast 46, 3) := by decide +kernel
theorem dX9_send_194 : decode cX9_send 194 = .ok (.invokevirtual 48, 3) := by decide +kernel
theorem dX9_send_197 : decode cX9_send 197 = .ok (.checkcast 46, 3) := by decide +kernel
theorem dX9_send_200 : decode cX9_send 200 = .ok (.goto 20, 3) := by decide +kernel
theorem dX9_send_203 : decode cX9_send 203 = .ok (.aload_n 0, 1) := by decide +kernel
theorem dX9_send_204 : decode cX9_send 204 = .ok (.iload_n 2, 1) := by decide +kernel
theorem dX9_send_205 : decode cX9_send 205 = .ok (.invokevirtual 75, 3) := by decide +kernel
theorem dX9_send_208 : decode cX9_send 208 = .ok (.aload_n 0, 1) := by decide +kernel
theorem dX9_send_209 : decode cX9_send 209 = .ok (.aload_n 0, 1) := by decide +kernel
theorem dX9_send_210 : decode cX9_send 210 = .ok (.getfield 86, 3) := by decide +kernel
theorem dX9_send_213 : decode cX9_send 213 = .ok (.iload_n 2, 1) := by decide +kernel
theorem dX9_send_214 : decode cX9_send 214 = .ok (.invokevirtual 57, 3) := by decide +kernel
theorem dX9_send_217 : decode cX9_send 217 = .ok (.invokestatic 123, 3) := by decide +kernel
theorem dX9_send_220 : decode cX9_send 220 = .ok (.astore 5, 2) := by decide +kernel
theorem dX9_send_222 : decode cX9_send 222 = .ok (.aload_n 0, 1) := by decide +kernel
theorem dX9_send_223 : decode cX9_send 223 = .ok (.dup, 1) := by decide +kernel
theorem dX9_send_224 : decode cX9_send 224 = .ok (.getfield 114, 3) := by decide +kernel
theorem dX9_send_227 : decode cX9_send 227 = .ok (.iload 4, 2) := by decide +kernel
theorem dX9_send_229 : decode cX9_send 229 = .ok (.ifCond .eq 7, 3) := by decide +kernel
theorem dX9_send_232 : decode cX9_send 232 = .ok (.iconst 1, 1) := by decide +kernel
theorem dX9_send_233 : decode cX9_send 233 = .ok (.goto 4, 3) := by decide +kernel
theorem dX9_send_236 : decode cX9_send 236 = .ok (.iconst 0, 1) := by decide +kernel
theorem dX9_send_237 : decode cX9_send 237 = .ok (.iadd, 1) := by decide +kernel
theorem dX9_send_238 : decode cX9_send 238 = .ok (.putfield 114, 3) := by decide +kernel
theorem dX9_send_241 : decode cX9_send 241 = .ok (.aload_n 0, 1) := by decide +kernel
theorem dX9_send_242 : decode cX9_send 242 = .ok (.dup, 1) := by decide +kernel
theorem dX9_send_243 : decode cX9_send 243 = .ok (.getfield 117, 3) := by decide +kernel
theorem dX9_send_246 : decode cX9_send 246 = .ok (.iload 4, 2) := by decide +kernel
theorem dX9_send_248 : decode cX9_send 248 = .ok (.ifCond .ne 12, 3) := by decide +kernel
theorem dX9_send_251 : decode cX9_send 251 = .ok (.aload 5, 2) := by decide +kernel
theorem dX9_send_253 : decode cX9_send 253 = .ok (.ifnonnull 7, 3) := by decide +kernel
theorem dX9_send_256 : decode cX9_send 256 = .ok (.iconst 1, 1) := by decide +kernel
theorem dX9_send_257 : decode cX9_send 257 = .ok (.goto 4, 3) := by decide +kernel
theorem dX9_send_260 : decode cX9_send 260 = .ok (.iconst 0, 1) := by decide +kernel
theorem dX9_send_261 : decode cX9_send 261 = .ok (.iadd, 1) := by decide +kernel
theorem dX9_send_262 : decode cX9_send 262 = .ok (.putfield 117, 3) := by decide +kernel
theorem dX9_send_265 : decode cX9_send 265 = .ok (.aload 5, 2) := by decide +kernel
theorem dX9_send_267 : decode cX9_send 267 = .ok (.ifnull 36, 3) := by decide +kernel
theorem dX9_send_270 : decode cX9_send 270 = .ok (.aload_n 0, 1) := by decide +kernel
theorem dX9_send_271 : decode cX9_send 271 = .ok (.getfield 86, 3) := by decide +kernel
theorem dX9_send_274 : decode cX9_send 274 = .ok (.iload_n 2, 1) := by decide +kernel
theorem dX9_send_275 : decode cX9_send 275 = .ok (.aload 5, 2) := by decide +kernel
theorem dX9_send_277 : decode cX9_send 277 = .ok (.invokevirtual 127, 3) := by decide +kernel
theorem dX9_send_280 : decode cX9_send 280 = .ok (.pop, 1) := by decide +kernel
theorem dX9_send_281 : decode cX9_send 281 = .ok (.aload_n 0, 1) := by decide +kernel
theorem dX9_send_282 : decode cX9_send 282 = .ok (.getfield 97, 3) := by decide +kernel
theorem dX9_send_285 : decode cX9_send 285 = .ok (.iload_n 2, 1) := by decide +kernel
theorem dX9_send_286 : decode cX9_send 286 = .ok (.aload_n 0, 1) := by decide +kernel
theorem dX9_send_287 : decode cX9_send 287 = .ok (.iload_n 2, 1) := by decide +kernel
theorem dX9_send_288 : decode cX9_send 288 = .ok (.invokevirtual 93, 3) := by decide +kernel
theorem dX9_send_291 : decode cX9_send 291 = .ok (.ifCond .ne 7, 3) := by decide +kernel
theorem dX9_send_294 : decode cX9_send 294 = .ok (.iconst 0, 1) := by decide +kernel
theorem dX9_send_295 : decode cX9_send 295 = .ok (.goto 4, 3) := by decide +kernel
theorem dX9_send_298 : decode cX9_send 298 = .ok (.iconst 3, 1) := by decide +kernel
theorem dX9_send_299 : decode cX9_send 299 = .ok (.iastore, 1) := by decide +kernel
theorem dX9_send_300 : decode cX9_send 300 = .ok (.goto 130, 3) := by decide +kernel
theorem dX9_send_303 : decode cX9_send 303 = .ok (.aload_n 0, 1) := by decide +kernel
theorem dX9_send_304 : decode cX9_send 304 = .ok (.getfield 111, 3) := by decide +kernel
theorem dX9_send_307 : decode cX9_send 307 = .ok (.aload_n 0, 1) := by decide +kernel
theorem dX9_send_308 : decode cX9_send 308 = .ok (.getfield 7, 3) := by decide +kernel
theorem dX9_send_311 : decode cX9_send 311 = .ok (.iconst 3, 1) := by decide +kernel
theorem dX9_send_312 : decode cX9_send 312 = .ok (.iaload, 1) := by decide +kernel
theorem dX9_send_313 : decode cX9_send 313 = .ok (.if_icmp .ge 58, 3) := by decide +kernel
theorem dX9_send_316 : decode cX9_send 316 = .ok (.aload_n 0, 1) := by decide +kernel
theorem dX9_send_317 : decode cX9_send 317 = .ok (.dup, 1) := by decide +kernel
theorem dX9_send_318 : decode cX9_send 318 = .ok (.getfield 111, 3) := by decide +kernel
theorem dX9_send_321 : decode cX9_send 321 = .ok (.iconst 1, 1) := by decide +kernel
theorem dX9_send_322 : decode cX9_send 322 = .ok (.iadd, 1) := by decide +kernel
theorem dX9_send_323 : decode cX9_send 323 = .ok (.putfield 111, 3) := by decide +kernel
theorem dX9_send_326 : decode cX9_send 326 = .ok (.aload_n 0, 1) := by decide +kernel
theorem dX9_send_327 : decode cX9_send 327 = .ok (.getfield 106, 3) := by decide +kernel
theorem dX9_send_330 : decode cX9_send 330 = .ok (.iload_n 2, 1) := by decide +kernel
theorem dX9_send_331 : decode cX9_send 331 = .ok (.dup2, 1) := by decide +kernel
theorem dX9_send_332 : decode cX9_send 332 = .ok (.iaload, 1) := by decide +kernel
theorem dX9_send_333 : decode cX9_send 333 = .ok (.iconst 1, 1) := by decide +kernel
theorem dX9_send_334 : decode cX9_send 334 = .ok (.iadd, 1) := by decide +kernel
theorem dX9_send_335 : decode cX9_send 335 = .ok (.iastore, 1) := by decide +kernel
theorem dX9_send_336 : decode cX9_send 336 = .ok (.aload_n 0, 1) := by decide +kernel
theorem dX9_send_337 : decode cX9_send 337 = .ok (.dup, 1) := by decide +kernel
theorem dX9_send_338 : decode cX9_send 338 = .ok (.getfield 109, 3) := by decide +kernel
theorem dX9_send_341 : decode cX9_send 341 = .ok (.aload_n 0, 1) := by decide +kernel
theorem dX9_send_342 : decode cX9_send 342 = .ok (.getfield 7, 3) := by decide +kernel
theorem dX9_send_345 : decode cX9_send 345 = .ok (.iconst 5, 1) := by decide +kernel
theorem dX9_send_346 : decode cX9_send 346 = .ok (.iaload, 1) := by decide +kernel
theorem dX9_send_347 : decode cX9_send 347 = .ok (.iadd, 1) := by decide +kernel
theorem dX9_send_348 : decode cX9_send 348 = .ok (.putfield 109, 3) := by decide +kernel
theorem dX9_send_351 : decode cX9_send 351 = .ok (.aload_n 0, 1) := by decide +kernel
theorem dX9_send_352 : decode cX9_send 352 = .ok (.iload_n 2, 1) := by decide +kernel
theorem dX9_send_353 : decode cX9_send 353 = .ok (.invokevirtual 82, 3) := by decide +kernel
theorem dX9_send_356 : decode cX9_send 356 = .ok (.ifCond .ne 9, 3) := by decide +kernel
theorem dX9_send_359 : decode cX9_send 359 = .ok (.iinc 2 (-1), 3) := by decide +kernel
theorem dX9_send_362 : decode cX9_send 362 = .ok (.goto (-11), 3) := by decide +kernel
theorem dX9_send_365 : decode cX9_send 365 = .ok (.iinc 2 (-1), 3) := by decide +kernel
theorem dX9_send_368 : decode cX9_send 368 = .ok (.goto 62, 3) := by decide +kernel
theorem dX9_send_371 : decode cX9_send 371 = .ok (.aload_n 0, 1) := by decide +kernel
theorem dX9_send_372 : decode cX9_send 372 = .ok (.getfield 86, 3) := by decide +kernel
theorem dX9_send_375 : decode cX9_send 375 = .ok (.iload_n 2, 1) := by decide +kernel
theorem dX9_send_376 : decode cX9_send 376 = .ok (.aload_n 0, 1) := by decide +kernel
theorem dX9_send_377 : decode cX9_send 377 = .ok (.getfield 7, 3) := by decide +kernel
theorem dX9_send_380 : decode cX9_send 380 = .ok (.iconst 2, 1) := by decide +kernel
theorem dX9_send_381 : decode cX9_send 381 = .ok (.iaload, 1) := by decide +kernel
theorem dX9_send_382 : decode cX9_send 382 = .ok (.iconst 1, 1) := by decide +kernel
theorem dX9_send_383 : decode cX9_send 383 = .ok (.if_icmp .ne 12, 3) := by decide +kernel
theorem dX9_send_386 : decode cX9_send 386 = .ok (.aload_n 0, 1) := by decide +kernel
theorem dX9_send_387 : decode cX9_send 387 = .ok (.getfield 24, 3) := by decide +kernel
theorem dX9_send_390 : decode cX9_send 390 = .ok (.newarray .boolean, 2) := by decide +kernel
theorem dX9_send_392 : decode cX9_send 392 = .ok (.goto 18, 3) := by decide +kernel
theorem dX9_send_395 : decode cX9_send 395 = .ok (.aload_n 0, 1) := by decide +kernel
theorem dX9_send_396 : decode cX9_send 396 = .ok (.aload_n 0, 1) := by decide +kernel
theorem dX9_send_397 : decode cX9_send 397 = .ok (.getfield 86, 3) := by decide +kernel
theorem dX9_send_400 : decode cX9_send 400 = .ok (.iload_n 2, 1) := by decide +kernel
theorem dX9_send_401 : decode cX9_send 401 = .ok (.invokevirtual 57, 3) := by decide +kernel
theorem dX9_send_404 : decode cX9_send 404 = .ok (.invokevirtual 48, 3) := by decide +kernel
theorem dX9_send_407 : decode cX9_send 407 = .ok (.checkcast 46, 3) := by decide +kernel
theorem dX9_send_410 : decode cX9_send 410 = .ok (.invokevirtual 127, 3) := by decide +kernel
theorem dX9_send_413 : decode cX9_send 413 = .ok (.pop, 1) := by decide +kernel
theorem dX9_send_414 : decode cX9_send 414 = .ok (.aload_n 0, 1) := by decide +kernel
theorem dX9_send_415 : decode cX9_send 415 = .ok (.getfield 97, 3) := by decide +kernel
theorem dX9_send_418 : decode cX9_send 418 = .ok (.iload_n 2, 1) := by decide +kernel
theorem dX9_send_419 : decode cX9_send 419 = .ok (.iload 4, 2) := by decide +kernel
theorem dX9_send_421 : decode cX9_send 421 = .ok (.ifCond .eq 7, 3) := by decide +kernel
theorem dX9_send_424 : decode cX9_send 424 = .ok (.iconst 1, 1) := by decide +kernel
theorem dX9_send_425 : decode cX9_send 425 = .ok (.goto 4, 3) := by decide +kernel
theorem dX9_send_428 : decode cX9_send 428 = .ok (.iconst 2, 1) := by decide +kernel
theorem dX9_send_429 : decode cX9_send 429 = .ok (.iastore, 1) := by decide +kernel
theorem dX9_send_430 : decode cX9_send 430 = .ok (.iinc 2 1, 3) := by decide +kernel
theorem dX9_send_433 : decode cX9_send 433 = .ok (.goto (-337), 3) := by decide +kernel
theorem dX9_send_436 : decode cX9_send 436 = .ok (.return_, 1) := by decide +kernel
theorem dX9_allWrong_0 : decode cX9_allWrong 0 = .ok (.iconst 0, 1) := by decide +kernel
theorem dX9_allWrong_1 : decode cX9_allWrong 1 = .ok (.istore_n 1, 1) := by decide +kernel
theorem dX9_allWrong_2 : decode cX9_allWrong 2 = .ok (.iconst 0, 1) := by decide +kernel
theorem dX9_allWrong_3 : decode cX9_allWrong 3 = .ok (.istore_n 2, 1) := by decide +kernel
theorem dX9_allWrong_4 : decode cX9_allWrong 4 = .ok (.iload_n 2, 1) := by decide +kernel
theorem dX9_allWrong_5 : decode cX9_allWrong 5 = .ok (.aload_n 0, 1) := by decide +kernel
theorem dX9_allWrong_6 : decode cX9_allWrong 6 = .ok (.getfield 19, 3) := by decide +kernel
theorem dX9_allWrong_9 : decode cX9_allWrong 9 = .ok (.invokevirtual 89, 3) := by decide +kernel
theorem dX9_allWrong_12 : decode cX9_allWrong 12 = .ok (.if_icmp .ge 17, 3) := by decide +kernel
theorem dX9_allWrong_15 : decode cX9_allWrong 15 = .ok (.iload_n 1, 1) := by decide +kernel
theorem dX9_allWrong_16 : decode cX9_allWrong 16 = .ok (.aload_n 0, 1) := by decide +kernel
theorem dX9_allWrong_17 : decode cX9_allWrong 17 = .ok (.iload_n 2, 1) := by decide +kernel
theorem dX9_allWrong_18 : decode cX9_allWrong 18 = .ok (.invokevirtual 93, 3) := by decide +kernel
theorem dX9_allWrong_21 : decode cX9_allWrong 21 = .ok (.iadd, 1) := by decide +kernel
theorem dX9_allWrong_22 : decode cX9_allWrong 22 = .ok (.istore_n 1, 1) := by decide +kernel
theorem dX9_allWrong_23 : decode cX9_allWrong 23 = .ok (.iinc 2 1, 3) := by decide +kernel
theorem dX9_allWrong_26 : decode cX9_allWrong 26 = .ok (.goto (-22), 3) := by decide +kernel
theorem dX9_allWrong_29 : decode cX9_allWrong 29 = .ok (.iload_n 1, 1) := by decide +kernel
theorem dX9_allWrong_30 : decode cX9_allWrong 30 = .ok (.ireturn, 1) := by decide +kernel
theorem dX9_count_0 : decode cX9_count 0 = .ok (.iconst 0, 1) := by decide +kernel
theorem dX9_count_1 : decode cX9_count 1 = .ok (.istore_n 2, 1) := by decide +kernel
theorem dX9_count_2 : decode cX9_count 2 = .ok (.aload_n 0, 1) := by decide +kernel
theorem dX9_count_3 : decode cX9_count 3 = .ok (.getfield 97, 3) := by decide +kernel
theorem dX9_count_6 : decode cX9_count 6 = .ok (.astore_n 3, 1) := by decide +kernel
theorem dX9_count_7 : decode cX9_count 7 = .ok (.aload_n 3, 1) := by decide +kernel
theorem dX9_count_8 : decode cX9_count 8 = .ok (.arraylength, 1) := by decide +kernel
theorem dX9_count_9 : decode cX9_count 9 = .ok (.istore 4, 2) := by decide +kernel
theorem dX9_count_11 : decode cX9_count 11 = .ok (.iconst 0, 1) := by decide +kernel
theorem dX9_count_12 : decode cX9_count 12 = .ok (.istore 5, 2) := by decide +kernel
theorem dX9_count_14 : decode cX9_count 14 = .ok (.iload 5, 2) := by decide +kernel
theorem dX9_count_16 : decode cX9_count 16 = .ok (.iload 4, 2) := by decide +kernel
theorem dX9_count_18 : decode cX9_count 18 = .ok (.if_icmp .ge 29, 3) := by decide +kernel
theorem dX9_count_21 : decode cX9_count 21 = .ok (.aload_n 3, 1) := by decide +kernel
theorem dX9_count_22 : decode cX9_count 22 = .ok (.iload 5, 2) := by decide +kernel
theorem dX9_count_24 : decode cX9_count 24 = .ok (.iaload, 1) := by decide +kernel
theorem dX9_count_25 : decode cX9_count 25 = .ok (.istore 6, 2) := by decide +kernel
theorem dX9_count_27 : decode cX9_count 27 = .ok (.iload_n 2, 1) := by decide +kernel
theorem dX9_count_28 : decode cX9_count 28 = .ok (.iload 6, 2) := by decide +kernel
theorem dX9_count_30 : decode cX9_count 30 = .ok (.iload_n 1, 1) := by decide +kernel
theorem dX9_count_31 : decode cX9_count 31 = .ok (.if_icmp .ne 7, 3) := by decide +kernel
theorem dX9_count_34 : decode cX9_count 34 = .ok (.iconst 1, 1) := by decide +kernel
theorem dX9_count_35 : decode cX9_count 35 = .ok (.goto 4, 3) := by decide +kernel
theorem dX9_count_38 : decode cX9_count 38 = .ok (.iconst 0, 1) := by decide +kernel
theorem dX9_count_39 : decode cX9_count 39 = .ok (.iadd, 1) := by decide +kernel
theorem dX9_count_40 : decode cX9_count 40 = .ok (.istore_n 2, 1) := by decide +kernel
theorem dX9_count_41 : decode cX9_count 41 = .ok (.iinc 5 1, 3) := by decide +kernel
theorem dX9_count_44 : decode cX9_count 44 = .ok (.goto (-30), 3) := by decide +kernel
theorem dX9_count_47 : decode cX9_count 47 = .ok (.iload_n 2, 1) := by decide +kernel
theorem dX9_count_48 : decode cX9_count 48 = .ok (.ireturn, 1) := by decide +kernel
theorem dL_isSent_0 : decode cL_isSent 0 = .ok (.aload_n 1, 1) := by decide +kernel
theorem dL_isSent_1 : decode cL_isSent 1 = .ok (.invokevirtual 159, 3) := by decide +kernel
theorem dL_isSent_4 : decode cL_isSent 4 = .ok (.aload_n 1, 1) := by decide +kernel
theorem dL_isSent_5 : decode cL_isSent 5 = .ok (.getfield 84, 3) := by decide +kernel
theorem dL_isSent_8 : decode cL_isSent 8 = .ok (.invokevirtual 90, 3) := by decide +kernel
theorem dL_isSent_11 : decode cL_isSent 11 = .ok (.istore_n 2, 1) := by decide +kernel
theorem dL_isSent_12 : decode cL_isSent 12 = .ok (.iconst 0, 1) := by decide +kernel
theorem dL_isSent_13 : decode cL_isSent 13 = .ok (.istore_n 3, 1) := by decide +kernel
theorem dL_isSent_14 : decode cL_isSent 14 = .ok (.aload_n 1, 1) := by decide +kernel
theorem dL_isSent_15 : decode cL_isSent 15 = .ok (.getfield 162, 3) := by decide +kernel
theorem dL_isSent_18 : decode cL_isSent 18 = .ok (.astore 4, 2) := by decide +kernel
theorem dL_isSent_20 : decode cL_isSent 20 = .ok (.aload 4, 2) := by decide +kernel
theorem dL_isSent_22 : decode cL_isSent 22 = .ok (.arraylength, 1) := by decide +kernel
theorem dL_isSent_23 : decode cL_isSent 23 = .ok (.istore 5, 2) := by decide +kernel
theorem dL_isSent_25 : decode cL_isSent 25 = .ok (.iconst 0, 1) := by decide +kernel
theorem dL_isSent_26 : decode cL_isSent 26 = .ok (.istore 6, 2) := by decide +kernel
theorem dL_isSent_28 : decode cL_isSent 28 = .ok (.iload 6, 2) := by decide +kernel
theorem dL_isSent_30 : decode cL_isSent 30 = .ok (.iload 5, 2) := by decide +kernel
theorem dL_isSent_32 : decode cL_isSent 32 = .ok (.if_icmp .ge 21, 3) := by decide +kernel
theorem dL_isSent_35 : decode cL_isSent 35 = .ok (.aload 4, 2) := by decide +kernel
theorem dL_isSent_37 : decode cL_isSent 37 = .ok (.iload 6, 2) := by decide +kernel
theorem dL_isSent_39 : decode cL_isSent 39 = .ok (.iaload, 1) := by decide +kernel
theorem dL_isSent_40 : decode cL_isSent 40 = .ok (.istore 7, 2) := by decide +kernel
theorem dL_isSent_42 : decode cL_isSent 42 = .ok (.iload_n 3, 1) := by decide +kernel
theorem dL_isSent_43 : decode cL_isSent 43 = .ok (.iload 7, 2) := by decide +kernel
theorem dL_isSent_45 : decode cL_isSent 45 = .ok (.iadd, 1) := by decide +kernel
theorem dL_isSent_46 : decode cL_isSent 46 = .ok (.istore_n 3, 1) := by decide +kernel
theorem dL_isSent_47 : decode cL_isSent 47 = .ok (.iinc 6 1, 3) := by decide +kernel
theorem dL_isSent_50 : decode cL_isSent 50 = .ok (.goto (-22), 3) := by decide +kernel
theorem dL_isSent_53 : decode cL_isSent 53 = .ok (.aload_n 0, 1) := by decide +kernel
theorem dL_isSent_54 : decode cL_isSent 54 = .ok (.iconst 0, 1) := by decide +kernel
theorem dL_isSent_55 : decode cL_isSent 55 = .ok (.invokevirtual 165, 3) := by decide +kernel
theorem dL_isSent_58 : decode cL_isSent 58 = .ok (.aload_n 1, 1) := by decide +kernel
theorem dL_isSent_59 : decode cL_isSent 59 = .ok (.getfield 168, 3) := by decide +kernel
theorem dL_isSent_62 : decode cL_isSent 62 = .ok (.if_icmp .ne 63, 3) := by decide +kernel
theorem dL_isSent_65 : decode cL_isSent 65 = .ok (.aload_n 0, 1) := by decide +kernel
theorem dL_isSent_66 : decode cL_isSent 66 = .ok (.iconst 1, 1) := by decide +kernel
theorem dL_isSent_67 : decode cL_isSent 67 = .ok (.invokevirtual 165, 3) := by decide +kernel
theorem dL_isSent_70 : decode cL_isSent 70 = .ok (.iload_n 3, 1) := by decide +kernel
theorem dL_isSent_71 : decode cL_isSent 71 = .ok (.if_icmp .ne 54, 3) := by decide +kernel
theorem dL_isSent_74 : decode cL_isSent 74 = .ok (.aload_n 0, 1) := by decide +kernel
theorem dL_isSent_75 : decode cL_isSent 75 = .ok (.iconst 2, 1) := by decide +kernel
theorem dL_isSent_76 : decode cL_isSent 76 = .ok (.invokevirtual 165, 3) := by decide +kernel
theorem dL_isSent_79 : decode cL_isSent 79 = .ok (.aload_n 1, 1) := by decide +kernel
theorem dL_isSent_80 : decode cL_isSent 80 = .ok (.getfield 170, 3) := by decide +kernel
theorem dL_isSent_83 : decode cL_isSent 83 = .ok (.if_icmp .ne 42, 3) := by decide +kernel
theorem dL_isSent_86 : decode cL_isSent 86 = .ok (.aload_n 0, 1) := by decide +kernel
theorem dL_isSent_87 : decode cL_isSent 87 = .ok (.bipush 7, 2) := by decide +kernel
theorem dL_isSent_89 : decode cL_isSent 89 = .ok (.invokevirtual 165, 3) := by decide +kernel
theorem dL_isSent_92 : decode cL_isSent 92 = .ok (.aload_n 1, 1) := by decide +kernel
theorem dL_isSent_93 : decode cL_isSent 93 = .ok (.invokevirtual 173, 3) := by decide +kernel
theorem dL_isSent_96 : decode cL_isSent 96 = .ok (.if_icmp .ne 29, 3) := by decide +kernel
theorem dL_isSent_99 : decode cL_isSent 99 = .ok (.aload_n 0, 1) := by decide +kernel
theorem dL_isSent_100 : decode cL_isSent 100 = .ok (.bipush 8, 2) := by decide +kernel
theorem dL_isSent_102 : decode cL_isSent 102 = .ok (.invokevirtual 165, 3) := by decide +kernel
theorem dL_isSent_105 : decode cL_isSent 105 = .ok (.aload_n 1, 1) := by decide +kernel
theorem dL_isSent_106 : decode cL_isSent 106 = .ok (.getfield 176, 3) := by decide +kernel
theorem dL_isSent_109 : decode cL_isSent 109 = .ok (.if_icmp .ne 16, 3) := by decide +kernel
theorem dL_isSent_112 : decode cL_isSent 112 = .ok (.aload_n 0, 1) := by decide +kernel
theorem dL_isSent_113 : decode cL_isSent 113 = .ok (.bipush 9, 2) := by decide +kernel
theorem dL_isSent_115 : decode cL_isSent 115 = .ok (.invokevirtual 165, 3) := by decide +kernel
theorem dL_isSent_118 : decode cL_isSent 118 = .ok (.aload_n 1, 1) := by decide +kernel
theorem dL_isSent_119 : decode cL_isSent 119 = .ok (.getfield 179, 3) := by decide +kernel
theorem dL_isSent_122 : decode cL_isSent 122 = .ok (.if_icmp .eq 5, 3) := by decide +kernel
theorem dL_isSent_125 : decode cL_isSent 125 = .ok (.iconst 0, 1) := by decide +kernel
theorem dL_isSent_126 : decode cL_isSent 126 = .ok (.ireturn, 1) := by decide +kernel
theorem dL_isSent_127 : decode cL_isSent 127 = .ok (.iconst 0, 1) := by decide +kernel
theorem dL_isSent_128 : decode cL_isSent 128 = .ok (.istore 4, 2) := by decide +kernel
theorem dL_isSent_130 : decode cL_isSent 130 = .ok (.iload 4, 2) := by decide +kernel
theorem dL_isSent_132 : decode cL_isSent 132 = .ok (.iconst 4, 1) := by decide +kernel
theorem dL_isSent_133 : decode cL_isSent 133 = .ok (.if_icmp .ge 28, 3) := by decide +kernel
theorem dL_isSent_136 : decode cL_isSent 136 = .ok (.aload_n 0, 1) := by decide +kernel
theorem dL_isSent_137 : decode cL_isSent 137 = .ok (.iconst 3, 1) := by decide +kernel
theorem dL_isSent_138 : decode cL_isSent 138 = .ok (.iload 4, 2) := by decide +kernel
theorem dL_isSent_140 : decode cL_isSent 140 = .ok (.iadd, 1) := by decide +kernel
theorem dL_isSent_141 : decode cL_isSent 141 = .ok (.invokevirtual 165, 3) := by decide +kernel
theorem dL_isSent_144 : decode cL_isSent 144 = .ok (.aload_n 1, 1) := by decide +kernel
theorem dL_isSent_145 : decode cL_isSent 145 = .ok (.iload 4, 2) := by decide +kernel
theorem dL_isSent_147 : decode cL_isSent 147 = .ok (.invokevirtual 182, 3) := by decide +kernel
theorem dL_isSent_150 : decode cL_isSent 150 = .ok (.if_icmp .eq 5, 3) := by decide +kernel
theorem dL_isSent_153 : decode cL_isSent 153 = .ok (.iconst 0, 1) := by decide +kernel
theorem dL_isSent_154 : decode cL_isSent 154 = .ok (.ireturn, 1) := by decide +kernel
theorem dL_isSent_155 : decode cL_isSent 155 = .ok (.iinc 4 1, 3) := by decide +kernel
theorem dL_isSent_158 : decode cL_isSent 158 = .ok (.goto (-28), 3) := by decide +kernel
theorem dL_isSent_161 : decode cL_isSent 161 = .ok (.iconst 0, 1) := by decide +kernel
theorem dL_isSent_162 : decode cL_isSent 162 = .ok (.istore 4, 2) := by decide +kernel
theorem dL_isSent_164 : decode cL_isSent 164 = .ok (.iload 4, 2) := by decide +kernel
theorem dL_isSent_166 : decode cL_isSent 166 = .ok (.iload_n 2, 1) := by decide +kernel
theorem dL_isSent_167 : decode cL_isSent 167 = .ok (.if_icmp .ge 149, 3) := by decide +kernel
theorem dL_isSent_170 : decode cL_isSent 170 = .ok (.aload_n 0, 1) := by decide +kernel
theorem dL_isSent_171 : decode cL_isSent 171 = .ok (.iload 4, 2) := by decide +kernel
theorem dL_isSent_173 : decode cL_isSent 173 = .ok (.iconst 0, 1) := by decide +kernel
theorem dL_isSent_174 : decode cL_isSent 174 = .ok (.invokevirtual 183, 3) := by decide +kernel
theorem dL_isSent_177 : decode cL_isSent 177 = .ok (.aload_n 1, 1) := by decide +kernel
theorem dL_isSent_178 : decode cL_isSent 178 = .ok (.getfield 186, 3) := by decide +kernel
theorem dL_isSent_181 : decode cL_isSent 181 = .ok (.iload 4, 2) := by decide +kernel
theorem dL_isSent_183 : decode cL_isSent 183 = .ok (.iaload, 1) := by decide +kernel
theorem dL_isSent_184 : decode cL_isSent 184 = .ok (.if_icmp .ne 70, 3) := by decide +kernel
theorem dL_isSent_187 : decode cL_isSent 187 = .ok (.aload_n 0, 1) := by decide +kernel
theorem dL_isSent_188 : decode cL_isSent 188 = .ok (.iload 4, 2) := by decide +kernel
theorem dL_isSent_190 : decode cL_isSent 190 = .ok (.iconst 1, 1) := by decide +kernel
theorem dL_isSent_191 : decode cL_isSent 191 = .ok (.invokevirtual 183, 3) := by decide +kernel
theorem dL_isSent_194 : decode cL_isSent 194 = .ok (.aload_n 1, 1) := by decide +kernel
theorem dL_isSent_195 : decode cL_isSent 195 = .ok (.getfield 162, 3) := by decide +kernel
theorem dL_isSent_198 : decode cL_isSent 198 = .ok (.iload 4, 2) := by decide +kernel
theorem dL_isSent_200 : decode cL_isSent 200 = .ok (.iaload, 1) := by decide +kernel
theorem dL_isSent_201 : decode cL_isSent 201 = .ok (.if_icmp .ne 53, 3) := by decide +kernel
theorem dL_isSent_204 : decode cL_isSent 204 = .ok (.aload_n 0, 1) := by decide +kernel
theorem dL_isSent_205 : decode cL_isSent 205 = .ok (.iload 4, 2) := by decide +kernel
theorem dL_isSent_207 : decode cL_isSent 207 = .ok (.iconst 2, 1) := by decide +kernel
theorem dL_isSent_208 : decode cL_isSent 208 = .ok (.invokevirtual 183, 3) := by decide +kernel
theorem dL_isSent_211 : decode cL_isSent 211 = .ok (.aload_n 1, 1) := by decide +kernel
theorem dL_isSent_212 : decode cL_isSent 212 = .ok (.getfield 189, 3) := by decide +kernel
theorem dL_isSent_215 : decode cL_isSent 215 = .ok (.iload 4, 2) := by decide +kernel
theorem dL_isSent_217 : decode cL_isSent 217 = .ok (.iaload, 1) := by decide +kernel
theorem dL_isSent_218 : decode cL_isSent 218 = .ok (.if_icmp .ne 36, 3) := by decide +kernel
theorem dL_isSent_221 : decode cL_isSent 221 = .ok (.aload_n 0, 1) := by decide +kernel
theorem dL_isSent_222 : decode cL_isSent 222 = .ok (.iload 4, 2) := by decide +kernel
theorem dL_isSent_224 : decode cL_isSent 224 = .ok (.iconst 3, 1) := by decide +kernel
theorem dL_isSent_225 : decode cL_isSent 225 = .ok (.invokevirtual 183, 3) := by decide +kernel
theorem dL_isSent_228 : decode cL_isSent 228 = .ok (.aload_n 1, 1) := by decide +kernel
theorem dL_isSent_229 : decode cL_isSent 229 = .ok (.iload 4, 2) := by decide +kernel
theorem dL_isSent_231 : decode cL_isSent 231 = .ok (.invokevirtual 192, 3) := by decide +kernel
theorem dL_isSent_234 : decode cL_isSent 234 = .ok (.if_icmp .ne 20, 3) := by decide +kernel
theorem dL_isSent_237 : decode cL_isSent 237 = .ok (.aload_n 0, 1) := by decide +kernel
theorem dL_isSent_238 : decode cL_isSent 238 = .ok (.iload 4, 2) := by decide +kernel
theorem dL_isSent_240 : decode cL_isSent 240 = .ok (.iconst 4, 1) := by decide +kernel
theorem dL_isSent_241 : decode cL_isSent 241 = .ok (.invokevirtual 183, 3) := by decide +kernel
theorem dL_isSent_244 : decode cL_isSent 244 = .ok (.aload_n 1, 1) := by decide +kernel
theorem dL_isSent_245 : decode cL_isSent 245 = .ok (.getfield 195, 3) := by decide +kernel
theorem dL_isSent_248 : decode cL_isSent 248 = .ok (.iload 4, 2) := by decide +kernel
theorem dL_isSent_250 : decode cL_isSent 250 = .ok (.iaload, 1) := by decide +kernel
theorem dL_isSent_251 : decode cL_isSent 251 = .ok (.if_icmp .eq 5, 3) := by decide +kernel
theorem dL_isSent_254 : decode cL_isSent 254 = .ok (.iconst 0, 1) := by decide +kernel
theorem dL_isSent_255 : decode cL_isSent 255 = .ok (.ireturn, 1) := by decide +kernel
theorem dL_isSent_256 : decode cL_isSent 256 = .ok (.iconst 0, 1) := by decide +kernel
theorem dL_isSent_257 : decode cL_isSent 257 = .ok (.istore 5, 2) := by decide +kernel
theorem dL_isSent_259 : decode cL_isSent 259 = .ok (.iload 5, 2) := by decide +kernel
theorem dL_isSent_261 : decode cL_isSent 261 = .ok (.aload_n 1, 1) := by decide +kernel
theorem dL_isSent_262 : decode cL_isSent 262 = .ok (.getfield 98, 3) := by decide +kernel
theorem dL_isSent_265 : decode cL_isSent 265 = .ok (.if_icmp .ge 45, 3) := by decide +kernel
theorem dL_isSent_268 : decode cL_isSent 268 = .ok (.aload_n 0, 1) := by decide +kernel
theorem dL_isSent_269 : decode cL_isSent 269 = .ok (.iload 4, 2) := by decide +kernel
theorem dL_isSent_271 : decode cL_isSent 271 = .ok (.iload 5, 2) := by decide +kernel
theorem dL_isSent_273 : decode cL_isSent 273 = .ok (.invokevirtual 198, 3) := by decide +kernel
theorem dL_isSent_276 : decode cL_isSent 276 = .ok (.aload_n 1, 1) := by decide +kernel
theorem dL_isSent_277 : decode cL_isSent 277 = .ok (.getfield 201, 3) := by decide +kernel
theorem dL_isSent_280 : decode cL_isSent 280 = .ok (.iload 4, 2) := by decide +kernel
theorem dL_isSent_282 : decode cL_isSent 282 = .ok (.invokevirtual 108, 3) := by decide +kernel
theorem dL_isSent_285 : decode cL_isSent 285 = .ok (.checkcast 112, 3) := by decide +kernel
theorem dL_isSent_288 : decode cL_isSent 288 = .ok (.iload 5, 2) := by decide +kernel
theorem dL_isSent_290 : decode cL_isSent 290 = .ok (.baload, 1) := by decide +kernel
theorem dL_isSent_291 : decode cL_isSent 291 = .ok (.ifCond .eq 7, 3) := by decide +kernel
theorem dL_isSent_294 : decode cL_isSent 294 = .ok (.iconst 1, 1) := by decide +kernel
theorem dL_isSent_295 : decode cL_isSent 295 = .ok (.goto 4, 3) := by decide +kernel
theorem dL_isSent_298 : decode cL_isSent 298 = .ok (.iconst 0, 1) := by decide +kernel
theorem dL_isSent_299 : decode cL_isSent 299 = .ok (.if_icmp .eq 5, 3) := by decide +kernel
theorem dL_isSent_302 : decode cL_isSent 302 = .ok (.iconst 0, 1) := by decide +kernel
theorem dL_isSent_303 : decode cL_isSent 303 = .ok (.ireturn, 1) := by decide +kernel
theorem dL_isSent_304 : decode cL_isSent 304 = .ok (.iinc 5 1, 3) := by decide +kernel
theorem dL_isSent_307 : decode cL_isSent 307 = .ok (.goto (-48), 3) := by decide +kernel
theorem dL_isSent_310 : decode cL_isSent 310 = .ok (.iinc 4 1, 3) := by decide +kernel
theorem dL_isSent_313 : decode cL_isSent 313 = .ok (.goto (-149), 3) := by decide +kernel
theorem dL_isSent_316 : decode cL_isSent 316 = .ok (.iconst 1, 1) := by decide +kernel
theorem dL_isSent_317 : decode cL_isSent 317 = .ok (.ireturn, 1) := by decide +kernel
theorem dX9_init_0 : decode cX9_init 0 = .ok (.aload_n 0, 1) := by decide +kernel
theorem dX9_init_1 : decode cX9_init 1 = .ok (.invokespecial 1, 3) := by decide +kernel
theorem dX9_init_4 : decode cX9_init 4 = .ok (.aload_n 0, 1) := by decide +kernel
theorem dX9_init_5 : decode cX9_init 5 = .ok (.bipush 6, 2) := by decide +kernel
theorem dX9_init_7 : decode cX9_init 7 = .ok (.newarray .int, 2) := by decide +kernel
theorem dX9_init_9 : decode cX9_init 9 = .ok (.dup, 1) := by decide +kernel
theorem dX9_init_10 : decode cX9_init 10 = .ok (.iconst 0, 1) := by decide +kernel
theorem dX9_init_11 : decode cX9_init 11 = .ok (.iconst 4, 1) := by decide +kernel
theorem dX9_init_12 : decode cX9_init 12 = .ok (.iastore, 1) := by decide +kernel
theorem dX9_init_13 : decode cX9_init 13 = .ok (.dup, 1) := by decide +kernel
theorem dX9_init_14 : decode cX9_init 14 = .ok (.iconst 1, 1) := by decide +kernel
theorem dX9_init_15 : decode cX9_init 15 = .ok (.iconst 0, 1) := by decide +kernel
theorem dX9_init_16 : decode cX9_init 16 = .ok (.iastore, 1) := by decide +kernel
theorem dX9_init_17 : decode cX9_init 17 = .ok (.dup, 1) := by decide +kernel
theorem dX9_init_18 : decode cX9_init 18 = .ok (.iconst 2, 1) := by decide +kernel
theorem dX9_init_19 : decode cX9_init 19 = .ok (.iconst 0, 1) := by decide +kernel
theorem dX9_init_20 : decode cX9_init 20 = .ok (.iastore, 1) := by decide +kernel
theorem dX9_init_21 : decode cX9_init 21 = .ok (.dup, 1) := by decide +kernel
theorem dX9_init_22 : decode cX9_init 22 = .ok (.iconst 3, 1) := by decide +kernel
theorem dX9_init_23 : decode cX9_init 23 = .ok (.iconst 0, 1) := by decide +kernel
theorem dX9_init_24 : decode cX9_init 24 = .ok (.iastore, 1) := by decide +kernel
theorem dX9_init_25 : decode cX9_init 25 = .ok (.dup, 1) := by decide +kernel
theorem dX9_init_26 : decode cX9_init 26 = .ok (.iconst 4, 1) := by decide +kernel
theorem dX9_init_27 : decode cX9_init 27 = .ok (.bipush 8, 2) := by decide +kernel
theorem dX9_init_29 : decode cX9_init 29 = .ok (.iastore, 1) := by decide +kernel
theorem dX9_init_30 : decode cX9_init 30 = .ok (.dup, 1) := by decide +kernel
theorem dX9_init_31 : decode cX9_init 31 = .ok (.iconst 5, 1) := by decide +kernel
theorem dX9_init_32 : decode cX9_init 32 = .ok (.bipush 16, 2) := by decide +kernel
theorem dX9_init_34 : decode cX9_init 34 = .ok (.iastore, 1) := by decide +kernel
theorem dX9_init_35 : decode cX9_init 35 = .ok (.putfield 7, 3) := by decide +kernel
theorem dX9_init_38 : decode cX9_init 38 = .ok (.aload_n 0, 1) := by decide +kernel
theorem dX9_init_39 : decode cX9_init 39 = .ok (.bipush 20, 2) := by decide +kernel
theorem dX9_init_41 : decode cX9_init 41 = .ok (.newarray .int, 2) := by decide +kernel
theorem dX9_init_43 : decode cX9_init 43 = .ok (.putfield 13, 3) := by decide +kernel
theorem dX9_init_46 : decode cX9_init 46 = .ok (.aload_n 0, 1) := by decide +kernel
theorem dX9_init_47 : decode cX9_init 47 = .ok (.new 16, 3) := by decide +kernel
theorem dX9_init_50 : decode cX9_init 50 = .ok (.dup, 1) := by decide +kernel
theorem dX9_init_51 : decode cX9_init 51 = .ok (.invokespecial 18, 3) := by decide +kernel
theorem dX9_init_54 : decode cX9_init 54 = .ok (.putfield 19, 3) := by decide +kernel
theorem dX9_init_57 : decode cX9_init 57 = .ok (.return_, 1) := by decide +kernel
theorem dX9_copy_0 : decode cX9_copy 0 = .ok (.new 8, 3) := by decide +kernel
theorem dX9_copy_3 : decode cX9_copy 3 = .ok (.dup, 1) := by decide +kernel
theorem dX9_copy_4 : decode cX9_copy 4 = .ok (.invokespecial 23, 3) := by decide +kernel
theorem dX9_copy_7 : decode cX9_copy 7 = .ok (.astore_n 1, 1) := by decide +kernel
theorem dX9_copy_8 : decode cX9_copy 8 = .ok (.aload_n 1, 1) := by decide +kernel
theorem dX9_copy_9 : decode cX9_copy 9 = .ok (.aload_n 0, 1) := by decide +kernel
theorem dX9_copy_10 : decode cX9_copy 10 = .ok (.getfield 24, 3) := by decide +kernel
theorem dX9_copy_13 : decode cX9_copy 13 = .ok (.putfield 24, 3) := by decide +kernel
theorem dX9_copy_16 : decode cX9_copy 16 = .ok (.aload_n 1, 1) := by decide +kernel
theorem dX9_copy_17 : decode cX9_copy 17 = .ok (.aload_n 0, 1) := by decide +kernel
theorem dX9_copy_18 : decode cX9_copy 18 = .ok (.getfield 7, 3) := by decide +kernel
theorem dX9_copy_21 : decode cX9_copy 21 = .ok (.invokevirtual 28, 3) := by decide +kernel
theorem dX9_copy_24 : decode cX9_copy 24 = .ok (.checkcast 29, 3) := by decide +kernel
theorem dX9_copy_27 : decode cX9_copy 27 = .ok (.putfield 7, 3) := by decide +kernel
theorem dX9_copy_30 : decode cX9_copy 30 = .ok (.aload_n 1, 1) := by decide +kernel
theorem dX9_copy_31 : decode cX9_copy 31 = .ok (.aload_n 0, 1) := by decide +kernel
theorem dX9_copy_32 : decode cX9_copy 32 = .ok (.getfield 13, 3) := by decide +kernel
theorem dX9_copy_35 : decode cX9_copy 35 = .ok (.invokevirtual 28, 3) := by decide +kernel
theorem dX9_copy_38 : decode cX9_copy 38 = .ok (.checkcast 29, 3) := by decide +kernel
theorem dX9_copy_41 : decode cX9_copy 41 = .ok (.putfield 13, 3) := by decide +kernel
theorem dX9_copy_44 : decode cX9_copy 44 = .ok (.aload_n 0, 1) := by decide +kernel
theorem dX9_copy_45 : decode cX9_copy 45 = .ok (.getfield 19, 3) := by decide +kernel
theorem dX9_copy_48 : decode cX9_copy 48 = .ok (.invokevirtual 33, 3) := by decide +kernel
theorem dX9_copy_51 : decode cX9_copy 51 = .ok (.astore_n 2, 1) := by decide +kernel
theorem dX9_copy_52 : decode cX9_copy 52 = .ok (.aload_n 2, 1) := by decide +kernel
theorem dX9_copy_53 : decode cX9_copy 53 = .ok (.invokeinterface 37 1, 5) := by decide +kernel
theorem dX9_copy_58 : decode cX9_copy 58 = .ok (.ifCond .eq 31, 3) := by decide +kernel
theorem dX9_copy_61 : decode cX9_copy 61 = .ok (.aload_n 2, 1) := by decide +kernel
theorem dX9_copy_62 : decode cX9_copy 62 = .ok (.invokeinterface 43 1, 5) := by decide +kernel
theorem dX9_copy_67 : decode cX9_copy 67 = .ok (.checkcast 46, 3) := by decide +kernel
theorem dX9_copy_70 : decode cX9_copy 70 = .ok (.astore_n 3, 1) := by decide +kernel
theorem dX9_copy_71 : decode cX9_copy 71 = .ok (.aload_n 1, 1) := by decide +kernel
theorem dX9_copy_72 : decode cX9_copy 72 = .ok (.getfield 19, 3) := by decide +kernel
theorem dX9_copy_75 : decode cX9_copy 75 = .ok (.aload_n 3, 1) := by decide +kernel
theorem dX9_copy_76 : decode cX9_copy 76 = .ok (.invokevirtual 48, 3) := by decide +kernel
theorem dX9_copy_79 : decode cX9_copy 79 = .ok (.checkcast 46, 3) := by decide +kernel
theorem dX9_copy_82 : decode cX9_copy 82 = .ok (.invokevirtual 49, 3) := by decide +kernel
theorem dX9_copy_85 : decode cX9_copy 85 = .ok (.pop, 1) := by decide +kernel
theorem dX9_copy_86 : decode cX9_copy 86 = .ok (.goto (-34), 3) := by decide +kernel
theorem dX9_copy_89 : decode cX9_copy 89 = .ok (.aload_n 1, 1) := by decide +kernel
theorem dX9_copy_90 : decode cX9_copy 90 = .ok (.areturn, 1) := by decide +kernel
theorem dL_pick_0 : decode cL_pick 0 = .ok (.iload_n 1, 1) := by decide +kernel
theorem dL_pick_1 : decode cL_pick 1 = .ok (.aload_n 0, 1) := by decide +kernel
theorem dL_pick_2 : decode cL_pick 2 = .ok (.arraylength, 1) := by decide +kernel
theorem dL_pick_3 : decode cL_pick 3 = .ok (.if_icmp .ge 9, 3) := by decide +kernel
theorem dL_pick_6 : decode cL_pick 6 = .ok (.aload_n 0, 1) := by decide +kernel
theorem dL_pick_7 : decode cL_pick 7 = .ok (.iload_n 1, 1) := by decide +kernel
theorem dL_pick_8 : decode cL_pick 8 = .ok (.iaload, 1) := by decide +kernel
theorem dL_pick_9 : decode cL_pick 9 = .ok (.goto 7, 3) := by decide +kernel
theorem dL_pick_12 : decode cL_pick 12 = .ok (.bipush 97, 2) := by decide +kernel
theorem dL_pick_14 : decode cL_pick 14 = .ok (.iload_n 1, 1) := by decide +kernel
theorem dL_pick_15 : decode cL_pick 15 = .ok (.imul, 1) := by decide +kernel
theorem dL_pick_16 : decode cL_pick 16 = .ok (.ldc 7, 2) := by decide +kernel
theorem dL_pick_18 : decode cL_pick 18 = .ok (.iand, 1) := by decide +kernel
theorem dL_pick_19 : decode cL_pick 19 = .ok (.ireturn, 1) := by decide +kernel
theorem dX10_next_0 : decode cX10_next 0 = .ok (.aload_n 0, 1) := by decide +kernel
theorem dX10_next_1 : decode cX10_next 1 = .ok (.dup, 1) := by decide +kernel
theorem dX10_next_2 : decode cX10_next 2 = .ok (.getfield 13, 3) := by decide +kernel
theorem dX10_next_5 : decode cX10_next 5 = .ok (.iconst 1, 1) := by decide +kernel
theorem dX10_next_6 : decode cX10_next 6 = .ok (.iadd, 1) := by decide +kernel
theorem dX10_next_7 : decode cX10_next 7 = .ok (.putfield 13, 3) := by decide +kernel
theorem dX10_next_10 : decode cX10_next 10 = .ok (.aload_n 0, 1) := by decide +kernel
theorem dX10_next_11 : decode cX10_next 11 = .ok (.getfield 7, 3) := by decide +kernel
theorem dX10_next_14 : decode cX10_next 14 = .ok (.aload_n 0, 1) := by decide +kernel
theorem dX10_next_15 : decode cX10_next 15 = .ok (.getfield 13, 3) := by decide +kernel
theorem dX10_next_18 : decode cX10_next 18 = .ok (.invokestatic 17, 3) := by decide +kernel
theorem dX10_next_21 : decode cX10_next 21 = .ok (.iload_n 1, 1) := by decide +kernel
theorem dX10_next_22 : decode cX10_next 22 = .ok (.irem, 1) := by decide +kernel
theorem dX10_next_23 : decode cX10_next 23 = .ok (.ireturn, 1) := by decide +kernel
theorem dL_isTold_0 : decode cL_isTold 0 = .ok (.aload_n 1, 1) := by decide +kernel
theorem dL_isTold_1 : decode cL_isTold 1 = .ok (.getfield 84, 3) := by decide +kernel
theorem dL_isTold_4 : decode cL_isTold 4 = .ok (.invokevirtual 90, 3) := by decide +kernel
theorem dL_isTold_7 : decode cL_isTold 7 = .ok (.istore_n 3, 1) := by decide +kernel
theorem dL_isTold_8 : decode cL_isTold 8 = .ok (.iconst (-1), 1) := by decide +kernel
theorem dL_isTold_9 : decode cL_isTold 9 = .ok (.istore 4, 2) := by decide +kernel
theorem dL_isTold_11 : decode cL_isTold 11 = .ok (.iconst 0, 1) := by decide +kernel
theorem dL_isTold_12 : decode cL_isTold 12 = .ok (.istore 5, 2) := by decide +kernel
theorem dL_isTold_14 : decode cL_isTold 14 = .ok (.iconst 0, 1) := by decide +kernel
theorem dL_isTold_15 : decode cL_isTold 15 = .ok (.istore 6, 2) := by decide +kernel
theorem dL_isTold_17 : decode cL_isTold 17 = .ok (.iload 6, 2) := by decide +kernel
theorem dL_isTold_19 : decode cL_isTold 19 = .ok (.iload_n 3, 1) := by decide +kernel
theorem dL_isTold_20 : decode cL_isTold 20 = .ok (.if_icmp .ge 304, 3) := by decide +kernel
theorem dL_isTold_23 : decode cL_isTold 23 = .ok (.aload_n 1, 1) := by decide +kernel
theorem dL_isTold_24 : decode cL_isTold 24 = .ok (.invokevirtual 204, 3) := by decide +kernel
theorem dL_isTold_27 : decode cL_isTold 27 = .ok (.astore 7, 2) := by decide +kernel
theorem dL_isTold_29 : decode cL_isTold 29 = .ok (.aload 7, 2) := by decide +kernel
theorem dL_isTold_31 : decode cL_isTold 31 = .ok (.bipush 20, 2) := by decide +kernel
theorem dL_isTold_33 : decode cL_isTold 33 = .ok (.newarray .int, 2) := by decide +kernel
theorem dL_isTold_35 : decode cL_isTold 35 = .ok (.putfield 135, 3) := by decide +kernel
theorem dL_isTold_38 : decode cL_isTold 38 = .ok (.aload 7, 2) := by decide +kernel
theorem dL_isTold_40 : decode cL_isTold 40 = .ok (.getfield 135, 3) := by decide +kernel
theorem dL_isTold_43 : decode cL_isTold 43 = .ok (.iload 6, 2) := by decide +kernel
theorem dL_isTold_45 : decode cL_isTold 45 = .ok (.iconst 1, 1) := by decide +kernel
theorem dL_isTold_46 : decode cL_isTold 46 = .ok (.iastore, 1) := by decide +kernel
theorem dL_isTold_47 : decode cL_isTold 47 = .ok (.aload 7, 2) := by decide +kernel
theorem dL_isTold_49 : decode cL_isTold 49 = .ok (.getfield 101, 3) := by decide +kernel
theorem dL_isTold_52 : decode cL_isTold 52 = .ok (.iconst 3, 1) := by decide +kernel
theorem dL_isTold_53 : decode cL_isTold 53 = .ok (.iconst 0, 1) := by decide +kernel
theorem dL_isTold_54 : decode cL_isTold 54 = .ok (.iastore, 1) := by decide +kernel
theorem dL_isTold_55 : decode cL_isTold 55 = .ok (.aload 7, 2) := by decide +kernel
theorem dL_isTold_57 : decode cL_isTold 57 = .ok (.invokevirtual 159, 3) := by decide +kernel
theorem dL_isTold_60 : decode cL_isTold 60 = .ok (.iconst 0, 1) := by decide +kernel
theorem dL_isTold_61 : decode cL_isTold 61 = .ok (.istore 8, 2) := by decide +kernel
theorem dL_isTold_63 : decode cL_isTold 63 = .ok (.iconst (-1), 1) := by decide +kernel
theorem dL_isTold_64 : decode cL_isTold 64 = .ok (.istore 9, 2) := by decide +kernel
theorem dL_isTold_66 : decode cL_isTold 66 = .ok (.iconst 0, 1) := by decide +kernel
theorem dL_isTold_67 : decode cL_isTold 67 = .ok (.istore 10, 2) := by decide +kernel
theorem dL_isTold_69 : decode cL_isTold 69 = .ok (.iload 10, 2) := by decide +kernel
theorem dL_isTold_71 : decode cL_isTold 71 = .ok (.iload_n 3, 1) := by decide +kernel
theorem dL_isTold_72 : decode cL_isTold 72 = .ok (.if_icmp .ge 48, 3) := by decide +kernel
theorem dL_isTold_75 : decode cL_isTold 75 = .ok (.iload 8, 2) := by decide +kernel
theorem dL_isTold_77 : decode cL_isTold 77 = .ok (.aload 7, 2) := by decide +kernel
theorem dL_isTold_79 : decode cL_isTold 79 = .ok (.iload 10, 2) := by decide +kernel
theorem dL_isTold_81 : decode cL_isTold 81 = .ok (.invokevirtual 192, 3) := by decide +kernel
theorem dL_isTold_84 : decode cL_isTold 84 = .ok (.ifCond .le 7, 3) := by decide +kernel
theorem dL_isTold_87 : decode cL_isTold 87 = .ok (.iconst 1, 1) := by decide +kernel
theorem dL_isTold_88 : decode cL_isTold 88 = .ok (.goto 4, 3) := by decide +kernel
theorem dL_isTold_91 : decode cL_isTold 91 = .ok (.iconst 0, 1) := by decide +kernel
theorem dL_isTold_92 : decode cL_isTold 92 = .ok (.iadd, 1) := by decide +kernel
theorem dL_isTold_93 : decode cL_isTold 93 = .ok (.istore 8, 2) := by decide +kernel
theorem dL_isTold_95 : decode cL_isTold 95 = .ok (.aload 7, 2) := by decide +kernel
theorem dL_isTold_97 : decode cL_isTold 97 = .ok (.iload 10, 2) := by decide +kernel
theorem dL_isTold_99 : decode cL_isTold 99 = .ok (.invokevirtual 192, 3) := by decide +kernel
theorem dL_isTold_102 : decode cL_isTold 102 = .ok (.ifCond .le 8, 3) := by decide +kernel
theorem dL_isTold_105 : decode cL_isTold 105 = .ok (.iload 10, 2) := by decide +kernel
theorem dL_isTold_107 : decode cL_isTold 107 = .ok (.goto 5, 3) := by decide +kernel
theorem dL_isTold_110 : decode cL_isTold 110 = .ok (.iload 9, 2) := by decide +kernel
theorem dL_isTold_112 : decode cL_isTold 112 = .ok (.istore 9, 2) := by decide +kernel
theorem dL_isTold_114 : decode cL_isTold 114 = .ok (.iinc 10 1, 3) := by decide +kernel
theorem dL_isTold_117 : decode cL_isTold 117 = .ok (.goto (-48), 3) := by decide +kernel
theorem dL_isTold_120 : decode cL_isTold 120 = .ok (.aload_n 0, 1) := by decide +kernel
theorem dL_isTold_121 : decode cL_isTold 121 = .ok (.iload 6, 2) := by decide +kernel
theorem dL_isTold_123 : decode cL_isTold 123 = .ok (.iconst 0, 1) := by decide +kernel
theorem dL_isTold_124 : decode cL_isTold 124 = .ok (.invokevirtual 208, 3) := by decide +kernel
theorem dL_isTold_127 : decode cL_isTold 127 = .ok (.iload 8, 2) := by decide +kernel
theorem dL_isTold_129 : decode cL_isTold 129 = .ok (.if_icmp .ne 30, 3) := by decide +kernel
theorem dL_isTold_132 : decode cL_isTold 132 = .ok (.aload_n 0, 1) := by decide +kernel
theorem dL_isTold_133 : decode cL_isTold 133 = .ok (.iload 6, 2) := by decide +kernel
theorem dL_isTold_135 : decode cL_isTold 135 = .ok (.iconst 1, 1) := by decide +kernel
theorem dL_isTold_136 : decode cL_isTold 136 = .ok (.invokevirtual 208, 3) := by decide +kernel
theorem dL_isTold_139 : decode cL_isTold 139 = .ok (.aload 7, 2) := by decide +kernel
theorem dL_isTold_141 : decode cL_isTold 141 = .ok (.invokevirtual 173, 3) := by decide +kernel
theorem dL_isTold_144 : decode cL_isTold 144 = .ok (.if_icmp .ne 15, 3) := by decide +kernel
theorem dL_isTold_147 : decode cL_isTold 147 = .ok (.aload_n 0, 1) := by decide +kernel
theorem dL_isTold_148 : decode cL_isTold 148 = .ok (.iload 6, 2) := by decide +kernel
theorem dL_isTold_150 : decode cL_isTold 150 = .ok (.iconst 2, 1) := by decide +kernel
theorem dL_isTold_151 : decode cL_isTold 151 = .ok (.invokevirtual 208, 3) := by decide +kernel
theorem dL_isTold_154 : decode cL_isTold 154 = .ok (.iload 9, 2) := by decide +kernel
theorem dL_isTold_156 : decode cL_isTold 156 = .ok (.if_icmp .eq 5, 3) := by decide +kernel
theorem dL_isTold_159 : decode cL_isTold 159 = .ok (.iconst 0, 1) := by decide +kernel
theorem dL_isTold_160 : decode cL_isTold 160 = .ok (.ireturn, 1) := by decide +kernel
theorem dL_isTold_161 : decode cL_isTold 161 = .ok (.iload 4, 2) := by decide +kernel
theorem dL_isTold_163 : decode cL_isTold 163 = .ok (.ifCond .lt 13, 3) := by decide +kernel
theorem dL_isTold_166 : decode cL_isTold 166 = .ok (.aload 7, 2) := by decide +kernel
theorem dL_isTold_168 : decode cL_isTold 168 = .ok (.invokevirtual 173, 3) := by decide +kernel
theorem dL_isTold_171 : decode cL_isTold 171 = .ok (.iload 5, 2) := by decide +kernel
theorem dL_isTold_173 : decode cL_isTold 173 = .ok (.if_icmp .le 14, 3) := by decide +kernel
theorem dL_isTold_176 : decode cL_isTold 176 = .ok (.iload 6, 2) := by decide +kernel
theorem dL_isTold_178 : decode cL_isTold 178 = .ok (.istore 4, 2) := by decide +kernel
theorem dL_isTold_180 : decode cL_isTold 180 = .ok (.aload 7, 2) := by decide +kernel
theorem dL_isTold_182 : decode cL_isTold 182 = .ok (.invokevirtual 173, 3) := by decide +kernel
theorem dL_isTold_185 : decode cL_isTold 185 = .ok (.istore 5, 2) := by decide +kernel
theorem dL_isTold_187 : decode cL_isTold 187 = .ok (.aload_n 2, 1) := by decide +kernel
theorem dL_isTold_188 : decode cL_isTold 188 = .ok (.iload_n 3, 1) := by decide +kernel
theorem dL_isTold_189 : decode cL_isTold 189 = .ok (.iconst 1, 1) := by decide +kernel
theorem dL_isTold_190 : decode cL_isTold 190 = .ok (.iadd, 1) := by decide +kernel
theorem dL_isTold_191 : decode cL_isTold 191 = .ok (.invokevirtual 211, 3) := by decide +kernel
theorem dL_isTold_194 : decode cL_isTold 194 = .ok (.iconst 1, 1) := by decide +kernel
theorem dL_isTold_195 : decode cL_isTold 195 = .ok (.isub, 1) := by decide +kernel
theorem dL_isTold_196 : decode cL_isTold 196 = .ok (.istore 10, 2) := by decide +kernel
theorem dL_isTold_198 : decode cL_isTold 198 = .ok (.aload_n 1, 1) := by decide +kernel
theorem dL_isTold_199 : decode cL_isTold 199 = .ok (.iload 6, 2) := by decide +kernel
theorem dL_isTold_201 : decode cL_isTold 201 = .ok (.invokevirtual 114, 3) := by decide +kernel
theorem dL_isTold_204 : decode cL_isTold 204 = .ok (.iload 10, 2) := by decide +kernel
theorem dL_isTold_206 : decode cL_isTold 206 = .ok (.ifCond .ge 12, 3) := by decide +kernel
theorem dL_isTold_209 : decode cL_isTold 209 = .ok (.aload_n 1, 1) := by decide +kernel
theorem dL_isTold_210 : decode cL_isTold 210 = .ok (.getfield 98, 3) := by decide +kernel
theorem dL_isTold_213 : decode cL_isTold 213 = .ok (.newarray .boolean, 2) := by decide +kernel
theorem dL_isTold_215 : decode cL_isTold 215 = .ok (.goto 15, 3) := by decide +kernel
theorem dL_isTold_218 : decode cL_isTold 218 = .ok (.aload_n 1, 1) := by decide +kernel
theorem dL_isTold_219 : decode cL_isTold 219 = .ok (.getfield 84, 3) := by decide +kernel
theorem dL_isTold_222 : decode cL_isTold 222 = .ok (.iload 10, 2) := by decide +kernel
theorem dL_isTold_224 : decode cL_isTold 224 = .ok (.invokevirtual 108, 3) := by decide +kernel
theorem dL_isTold_227 : decode cL_isTold 227 = .ok (.checkcast 112, 3) := by decide +kernel
theorem dL_isTold_230 : decode cL_isTold 230 = .ok (.invokestatic 152, 3) := by decide +kernel
theorem dL_isTold_233 : decode cL_isTold 233 = .ok (.astore 11, 2) := by decide +kernel
theorem dL_isTold_235 : decode cL_isTold 235 = .ok (.aload 11, 2) := by decide +kernel
theorem dL_isTold_237 : decode cL_isTold 237 = .ok (.ifnonnull 7, 3) := by decide +kernel
theorem dL_isTold_240 : decode cL_isTold 240 = .ok (.iconst (-1), 1) := by decide +kernel
theorem dL_isTold_241 : decode cL_isTold 241 = .ok (.goto 4, 3) := by decide +kernel
theorem dL_isTold_244 : decode cL_isTold 244 = .ok (.iconst 0, 1) := by decide +kernel
theorem dL_isTold_245 : decode cL_isTold 245 = .ok (.istore 12, 2) := by decide +kernel
theorem dL_isTold_247 : decode cL_isTold 247 = .ok (.iconst 0, 1) := by decide +kernel
theorem dL_isTold_248 : decode cL_isTold 248 = .ok (.istore 13, 2) := by decide +kernel
theorem dL_isTold_250 : decode cL_isTold 250 = .ok (.iload 13, 2) := by decide +kernel
theorem dL_isTold_252 : decode cL_isTold 252 = .ok (.aload_n 1, 1) := by decide +kernel
theorem dL_isTold_253 : decode cL_isTold 253 = .ok (.getfield 98, 3) := by decide +kernel
theorem dL_isTold_256 : decode cL_isTold 256 = .ok (.if_icmp .ge 47, 3) := by decide +kernel
theorem dL_isTold_259 : decode cL_isTold 259 = .ok (.aload 11, 2) := by decide +kernel
theorem dL_isTold_261 : decode cL_isTold 261 = .ok (.ifnull 42, 3) := by decide +kernel
theorem dL_isTold_264 : decode cL_isTold 264 = .ok (.iload 12, 2) := by decide +kernel
theorem dL_isTold_266 : decode cL_isTold 266 = .ok (.aload 11, 2) := by decide +kernel
theorem dL_isTold_268 : decode cL_isTold 268 = .ok (.iload 13, 2) := by decide +kernel
theorem dL_isTold_270 : decode cL_isTold 270 = .ok (.baload, 1) := by decide +kernel
theorem dL_isTold_271 : decode cL_isTold 271 = .ok (.aload_n 1, 1) := by decide +kernel
theorem dL_isTold_272 : decode cL_isTold 272 = .ok (.getfield 84, 3) := by decide +kernel
theorem dL_isTold_275 : decode cL_isTold 275 = .ok (.iload 6, 2) := by decide +kernel
theorem dL_isTold_277 : decode cL_isTold 277 = .ok (.invokevirtual 108, 3) := by decide +kernel
theorem dL_isTold_280 : decode cL_isTold 280 = .ok (.checkcast 112, 3) := by decide +kernel
theorem dL_isTold_283 : decode cL_isTold 283 = .ok (.iload 13, 2) := by decide +kernel
theorem dL_isTold_285 : decode cL_isTold 285 = .ok (.baload, 1) := by decide +kernel
theorem dL_isTold_286 : decode cL_isTold 286 = .ok (.if_icmp .ne 7, 3) := by decide +kernel
theorem dL_isTold_289 : decode cL_isTold 289 = .ok (.iconst 0, 1) := by decide +kernel
theorem dL_isTold_290 : decode cL_isTold 290 = .ok (.goto 4, 3) := by decide +kernel
theorem dL_isTold_293 : decode cL_isTold 293 = .ok (.iconst 1, 1) := by decide +kernel
theorem dL_isTold_294 : decode cL_isTold 294 = .ok (.iadd, 1) := by decide +kernel
theorem dL_isTold_295 : decode cL_isTold 295 = .ok (.istore 12, 2) := by decide +kernel
theorem dL_isTold_297 : decode cL_isTold 297 = .ok (.iinc 13 1, 3) := by decide +kernel
theorem dL_isTold_300 : decode cL_isTold 300 = .ok (.goto (-50), 3) := by decide +kernel
theorem dL_isTold_303 : decode cL_isTold 303 = .ok (.aload_n 0, 1) := by decide +kernel
theorem dL_isTold_304 : decode cL_isTold 304 = .ok (.iload 6, 2) := by decide +kernel
theorem dL_isTold_306 : decode cL_isTold 306 = .ok (.iload 10, 2) := by decide +kernel
theorem dL_isTold_308 : decode cL_isTold 308 = .ok (.invokevirtual 156, 3) := by decide +kernel
theorem dL_isTold_311 : decode cL_isTold 311 = .ok (.iload 12, 2) := by decide +kernel
theorem dL_isTold_313 : decode cL_isTold 313 = .ok (.if_icmp .eq 5, 3) := by decide +kernel
theorem dL_isTold_316 : decode cL_isTold 316 = .ok (.iconst 0, 1) := by decide +kernel
theorem dL_isTold_317 : decode cL_isTold 317 = .ok (.ireturn, 1) := by decide +kernel
theorem dL_isTold_318 : decode cL_isTold 318 = .ok (.iinc 6 1, 3) := by decide +kernel
theorem dL_isTold_321 : decode cL_isTold 321 = .ok (.goto (-304), 3) := by decide +kernel
theorem dL_isTold_324 : decode cL_isTold 324 = .ok (.iconst 0, 1) := by decide +kernel
theorem dL_isTold_325 : decode cL_isTold 325 = .ok (.istore 6, 2) := by decide +kernel
theorem dL_isTold_327 : decode cL_isTold 327 = .ok (.iconst 0, 1) := by decide +kernel
theorem dL_isTold_328 : decode cL_isTold 328 = .ok (.istore 7, 2) := by decide +kernel
theorem dL_isTold_330 : decode cL_isTold 330 = .ok (.iconst 0, 1) := by decide +kernel
theorem dL_isTold_331 : decode cL_isTold 331 = .ok (.istore 8, 2) := by decide +kernel
theorem dL_isTold_333 : decode cL_isTold 333 = .ok (.iconst 1, 1) := by decide +kernel
theorem dL_isTold_334 : decode cL_isTold 334 = .ok (.istore 9, 2) := by decide +kernel
theorem dL_isTold_336 : decode cL_isTold 336 = .ok (.iload 9, 2) := by decide +kernel
theorem dL_isTold_338 : decode cL_isTold 338 = .ok (.bipush 8, 2) := by decide +kernel
theorem dL_isTold_340 : decode cL_isTold 340 = .ok (.if_icmp .gt 85, 3) := by decide +kernel
theorem dL_isTold_343 : decode cL_isTold 343 = .ok (.aload_n 1, 1) := by decide +kernel
theorem dL_isTold_344 : decode cL_isTold 344 = .ok (.invokevirtual 204, 3) := by decide +kernel
theorem dL_isTold_347 : decode cL_isTold 347 = .ok (.astore 10, 2) := by decide +kernel
theorem dL_isTold_349 : decode cL_isTold 349 = .ok (.aload 10, 2) := by decide +kernel
theorem dL_isTold_351 : decode cL_isTold 351 = .ok (.getfield 101, 3) := by decide +kernel
theorem dL_isTold_354 : decode cL_isTold 354 = .ok (.iconst 0, 1) := by decide +kernel
theorem dL_isTold_355 : decode cL_isTold 355 = .ok (.iload 9, 2) := by decide +kernel
theorem dL_isTold_357 : decode cL_isTold 357 = .ok (.iastore, 1) := by decide +kernel
theorem dL_isTold_358 : decode cL_isTold 358 = .ok (.aload 10, 2) := by decide +kernel
theorem dL_isTold_360 : decode cL_isTold 360 = .ok (.invokevirtual 159, 3) := by decide +kernel
theorem dL_isTold_363 : decode cL_isTold 363 = .ok (.iload 6, 2) := by decide +kernel
theorem dL_isTold_365 : decode cL_isTold 365 = .ok (.ifCond .le 36, 3) := by decide +kernel
theorem dL_isTold_368 : decode cL_isTold 368 = .ok (.aload 10, 2) := by decide +kernel
theorem dL_isTold_370 : decode cL_isTold 370 = .ok (.invokevirtual 173, 3) := by decide +kernel
theorem dL_isTold_373 : decode cL_isTold 373 = .ok (.iload 7, 2) := by decide +kernel
theorem dL_isTold_375 : decode cL_isTold 375 = .ok (.if_icmp .gt 44, 3) := by decide +kernel
theorem dL_isTold_378 : decode cL_isTold 378 = .ok (.aload 10, 2) := by decide +kernel
theorem dL_isTold_380 : decode cL_isTold 380 = .ok (.invokevirtual 173, 3) := by decide +kernel
theorem dL_isTold_383 : decode cL_isTold 383 = .ok (.iload 7, 2) := by decide +kernel
theorem dL_isTold_385 : decode cL_isTold 385 = .ok (.if_icmp .ne 16, 3) := by decide +kernel
theorem dL_isTold_388 : decode cL_isTold 388 = .ok (.aload 10, 2) := by decide +kernel
theorem dL_isTold_390 : decode cL_isTold 390 = .ok (.getfield 168, 3) := by decide +kernel
theorem dL_isTold_393 : decode cL_isTold 393 = .ok (.iload 8, 2) := by decide +kernel
theorem dL_isTold_395 : decode cL_isTold 395 = .ok (.if_icmp .lt 6, 3) := by decide +kernel
theorem dL_isTold_398 : decode cL_isTold 398 = .ok (.goto 21, 3) := by decide +kernel
theorem dL_isTold_401 : decode cL_isTold 401 = .ok (.iload 9, 2) := by decide +kernel
theorem dL_isTold_403 : decode cL_isTold 403 = .ok (.istore 6, 2) := by decide +kernel
theorem dL_isTold_405 : decode cL_isTold 405 = .ok (.aload 10, 2) := by decide +kernel
theorem dL_isTold_407 : decode cL_isTold 407 = .ok (.invokevirtual 173, 3) := by decide +kernel
theorem dL_isTold_410 : decode cL_isTold 410 = .ok (.istore 7, 2) := by decide +kernel
theorem dL_isTold_412 : decode cL_isTold 412 = .ok (.aload 10, 2) := by decide +kernel
theorem dL_isTold_414 : decode cL_isTold 414 = .ok (.getfield 168, 3) := by decide +kernel
theorem dL_isTold_417 : decode cL_isTold 417 = .ok (.istore 8, 2) := by decide +kernel
theorem dL_isTold_419 : decode cL_isTold 419 = .ok (.iinc 9 1, 3) := by decide +kernel
theorem dL_isTold_422 : decode cL_isTold 422 = .ok (.goto (-86), 3) := by decide +kernel
theorem dL_isTold_425 : decode cL_isTold 425 = .ok (.iconst (-1), 1) := by decide +kernel
theorem dL_isTold_426 : decode cL_isTold 426 = .ok (.istore 9, 2) := by decide +kernel
theorem dL_isTold_428 : decode cL_isTold 428 = .ok (.bipush 9, 2) := by decide +kernel
theorem dL_isTold_430 : decode cL_isTold 430 = .ok (.istore 10, 2) := by decide +kernel
theorem dL_isTold_432 : decode cL_isTold 432 = .ok (.iload 10, 2) := by decide +kernel
theorem dL_isTold_434 : decode cL_isTold 434 = .ok (.ifCond .lt 46, 3) := by decide +kernel
theorem dL_isTold_437 : decode cL_isTold 437 = .ok (.aload_n 1, 1) := by decide +kernel
theorem dL_isTold_438 : decode cL_isTold 438 = .ok (.invokevirtual 204, 3) := by decide +kernel
theorem dL_isTold_441 : decode cL_isTold 441 = .ok (.astore 11, 2) := by decide +kernel
theorem dL_isTold_443 : decode cL_isTold 443 = .ok (.aload 11, 2) := by decide +kernel
theorem dL_isTold_445 : decode cL_isTold 445 = .ok (.getfield 101, 3) := by decide +kernel
theorem dL_isTold_448 : decode cL_isTold 448 = .ok (.iconst 3, 1) := by decide +kernel
theorem dL_isTold_449 : decode cL_isTold 449 = .ok (.iload 10, 2) := by decide +kernel
theorem dL_isTold_451 : decode cL_isTold 451 = .ok (.iastore, 1) := by decide +kernel
theorem dL_isTold_452 : decode cL_isTold 452 = .ok (.aload 11, 2) := by decide +kernel
theorem dL_isTold_454 : decode cL_isTold 454 = .ok (.invokevirtual 159, 3) := by decide +kernel
theorem dL_isTold_457 : decode cL_isTold 457 = .ok (.aload 11, 2) := by decide +kernel
theorem dL_isTold_459 : decode cL_isTold 459 = .ok (.invokevirtual 173, 3) := by decide +kernel
theorem dL_isTold_462 : decode cL_isTold 462 = .ok (.ifCond .ne 8, 3) := by decide +kernel
theorem dL_isTold_465 : decode cL_isTold 465 = .ok (.iload 10, 2) := by decide +kernel
theorem dL_isTold_467 : decode cL_isTold 467 = .ok (.goto 5, 3) := by decide +kernel
theorem dL_isTold_470 : decode cL_isTold 470 = .ok (.iload 9, 2) := by decide +kernel
theorem dL_isTold_472 : decode cL_isTold 472 = .ok (.istore 9, 2) := by decide +kernel
theorem dL_isTold_474 : decode cL_isTold 474 = .ok (.iinc 10 (-1), 3) := by decide +kernel
theorem dL_isTold_477 : decode cL_isTold 477 = .ok (.goto (-45), 3) := by decide +kernel
theorem dL_isTold_480 : decode cL_isTold 480 = .ok (.aload_n 0, 1) := by decide +kernel
theorem dL_isTold_481 : decode cL_isTold 481 = .ok (.invokevirtual 215, 3) := by decide +kernel
theorem dL_isTold_484 : decode cL_isTold 484 = .ok (.iload 4, 2) := by decide +kernel
theorem dL_isTold_486 : decode cL_isTold 486 = .ok (.if_icmp .ne 25, 3) := by decide +kernel
theorem dL_isTold_489 : decode cL_isTold 489 = .ok (.aload_n 0, 1) := by decide +kernel
theorem dL_isTold_490 : decode cL_isTold 490 = .ok (.invokevirtual 218, 3) := by decide +kernel
theorem dL_isTold_493 : decode cL_isTold 493 = .ok (.iload 6, 2) := by decide +kernel
theorem dL_isTold_495 : decode cL_isTold 495 = .ok (.if_icmp .ne 16, 3) := by decide +kernel
theorem dL_isTold_498 : decode cL_isTold 498 = .ok (.aload_n 0, 1) := by decide +kernel
theorem dL_isTold_499 : decode cL_isTold 499 = .ok (.invokevirtual 221, 3) := by decide +kernel
theorem dL_isTold_502 : decode cL_isTold 502 = .ok (.iload 9, 2) := by decide +kernel
theorem dL_isTold_504 : decode cL_isTold 504 = .ok (.if_icmp .ne 7, 3) := by decide +kernel
theorem dL_isTold_507 : decode cL_isTold 507 = .ok (.iconst 1, 1) := by decide +kernel
theorem dL_isTold_508 : decode cL_isTold 508 = .ok (.goto 4, 3) := by decide +kernel
theorem dL_isTold_511 : decode cL_isTold 511 = .ok (.iconst 0, 1) := by decide +kernel
theorem dL_isTold_512 : decode cL_isTold 512 = .ok (.ireturn, 1) := by decide +kernel
theorem dJ5_init_d00df_0 : decode cJ5_init_d00df 0 = .ok (.aload_n 0, 1) := by decide +kernel
theorem dJ5_init_d00df_1 : decode cJ5_init_d00df 1 = .ok (.invokespecial 3, 3) := by decide +kernel
theorem dJ5_init_d00df_4 : decode cJ5_init_d00df 4 = .ok (.getstatic 18, 3) := by decide +kernel
theorem dJ5_init_d00df_7 : decode cJ5_init_d00df 7 = .ok (.ifCond .eq 18, 3) := by decide +kernel
theorem dJ5_init_d00df_10 : decode cJ5_init_d00df 10 = .ok (.aload_n 0, 1) := by decide +kernel
theorem dJ5_init_d00df_11 : decode cJ5_init_d00df 11 = .ok (.iload_n 1, 1) := by decide +kernel
theorem dJ5_init_d00df_12 : decode cJ5_init_d00df 12 = .ok (.newarray .byte, 2) := by decide +kernel
theorem dJ5_init_d00df_14 : decode cJ5_init_d00df 14 = .ok (.putfield 15, 3) := by decide +kernel
theorem dJ5_init_d00df_17 : decode cJ5_init_d00df 17 = .ok (.aload_n 0, 1) := by decide +kernel
theorem dJ5_init_d00df_18 : decode cJ5_init_d00df 18 = .ok (.iconst 0, 1) := by decide +kernel
theorem dJ5_init_d00df_19 : decode cJ5_init_d00df 19 = .ok (.putfield 22, 3) := by decide +kernel
theorem dJ5_init_d00df_22 : decode cJ5_init_d00df 22 = .ok (.goto 16, 3) := by decide +kernel
theorem dJ5_init_d00df_25 : decode cJ5_init_d00df 25 = .ok (.aload_n 0, 1) := by decide +kernel
theorem dJ5_init_d00df_26 : decode cJ5_init_d00df 26 = .ok (.iload_n 1, 1) := by decide +kernel
theorem dJ5_init_d00df_27 : decode cJ5_init_d00df 27 = .ok (.invokestatic 26, 3) := by decide +kernel
theorem dJ5_init_d00df_30 : decode cJ5_init_d00df 30 = .ok (.putfield 15, 3) := by decide +kernel
theorem dJ5_init_d00df_33 : decode cJ5_init_d00df 33 = .ok (.aload_n 0, 1) := by decide +kernel
theorem dJ5_init_d00df_34 : decode cJ5_init_d00df 34 = .ok (.iconst 1, 1) := by decide +kernel
theorem dJ5_init_d00df_35 : decode cJ5_init_d00df 35 = .ok (.putfield 22, 3) := by decide +kernel
theorem dJ5_init_d00df_38 : decode cJ5_init_d00df 38 = .ok (.return_, 1) := by decide +kernel
theorem dJ4_init_da8c8_0 : decode cJ4_init_da8c8 0 = .ok (.aload_n 0, 1) := by decide +kernel
theorem dJ4_init_da8c8_1 : decode cJ4_init_da8c8 1 = .ok (.bipush 16, 2) := by decide +kernel
theorem dJ4_init_da8c8_3 : decode cJ4_init_da8c8 3 = .ok (.invokespecial 1, 3) := by decide +kernel
theorem dJ4_init_da8c8_6 : decode cJ4_init_da8c8 6 = .ok (.return_, 1) := by decide +kernel
theorem dJ5_newCapacity_0f7a4_0 : decode cJ5_newCapacity_0f7a4 0 = .ok (.aload_n 0, 1) := by decide +kernel
theorem dJ5_newCapacity_0f7a4_1 : decode cJ5_newCapacity_0f7a4 1 = .ok (.getfield 15, 3) := by decide +kernel
theorem dJ5_newCapacity_0f7a4_4 : decode cJ5_newCapacity_0f7a4 4 = .ok (.arraylength, 1) := by decide +kernel
theorem dJ5_newCapacity_0f7a4_5 : decode cJ5_newCapacity_0f7a4 5 = .ok (.istore_n 2, 1) := by decide +kernel
theorem dJ5_newCapacity_0f7a4_6 : decode cJ5_newCapacity_0f7a4 6 = .ok (.iload_n 1, 1) := by decide +kernel
theorem dJ5_newCapacity_0f7a4_7 : decode cJ5_newCapacity_0f7a4 7 = .ok (.aload_n 0, 1) := by decide +kernel
theorem dJ5_newCapacity_0f7a4_8 : decode cJ5_newCapacity_0f7a4 8 = .ok (.getfield 22, 3) := by decide +kernel
theorem dJ5_newCapacity_0f7a4_11 : decode cJ5_newCapacity_0f7a4 11 = .ok (.ishl, 1) := by decide +kernel
theorem dJ5_newCapacity_0f7a4_12 : decode cJ5_newCapacity_0f7a4 12 = .ok (.istore_n 3, 1) := by decide +kernel
theorem dJ5_newCapacity_0f7a4_13 : decode cJ5_newCapacity_0f7a4 13 = .ok (.iload_n 3, 1) := by decide +kernel
theorem dJ5_newCapacity_0f7a4_14 : decode cJ5_newCapacity_0f7a4 14 = .ok (.iload_n 2, 1) := by decide +kernel
theorem dJ5_newCapacity_0f7a4_15 : decode cJ5_newCapacity_0f7a4 15 = .ok (.isub, 1) := by decide +kernel
theorem dJ5_newCapacity_0f7a4_16 : decode cJ5_newCapacity_0f7a4 16 = .ok (.istore 4, 2) := by decide +kernel
theorem dJ5_newCapacity_0f7a4_18 : decode cJ5_newCapacity_0f7a4 18 = .ok (.iload_n 2, 1) := by decide +kernel
theorem dJ5_newCapacity_0f7a4_19 : decode cJ5_newCapacity_0f7a4 19 = .ok (.iload 4, 2) := by decide +kernel
theorem dJ5_newCapacity_0f7a4_21 : decode cJ5_newCapacity_0f7a4 21 = .ok (.iload_n 2, 1) := by decide +kernel
theorem dJ5_newCapacity_0f7a4_22 : decode cJ5_newCapacity_0f7a4 22 = .ok (.iconst 2, 1) := by decide +kernel
theorem dJ5_newCapacity_0f7a4_23 : decode cJ5_newCapacity_0f7a4 23 = .ok (.aload_n 0, 1) := by decide +kernel
theorem dJ5_newCapacity_0f7a4_24 : decode cJ5_newCapacity_0f7a4 24 = .ok (.getfield 22, 3) := by decide +kernel
theorem dJ5_newCapacity_0f7a4_27 : decode cJ5_newCapacity_0f7a4 27 = .ok (.ishl, 1) := by decide +kernel
theorem dJ5_newCapacity_0f7a4_28 : decode cJ5_newCapacity_0f7a4 28 = .ok (.iadd, 1) := by decide +kernel
theorem dJ5_newCapacity_0f7a4_29 : decode cJ5_newCapacity_0f7a4 29 = .ok (.invokestatic 114, 3) := by decide +kernel
theorem dJ5_newCapacity_0f7a4_32 : decode cJ5_newCapacity_0f7a4 32 = .ok (.istore 5, 2) := by decide +kernel
theorem dJ5_newCapacity_0f7a4_34 : decode cJ5_newCapacity_0f7a4 34 = .ok (.iload 5, 2) := by decide +kernel
theorem dJ5_newCapacity_0f7a4_36 : decode cJ5_newCapacity_0f7a4 36 = .ok (.ldc 39, 2) := by decide +kernel
theorem dJ5_newCapacity_0f7a4_38 : decode cJ5_newCapacity_0f7a4 38 = .ok (.if_icmp .ne 13, 3) := by decide +kernel
theorem dJ5_newCapacity_0f7a4_41 : decode cJ5_newCapacity_0f7a4 41 = .ok (.new 120, 3) := by decide +kernel
theorem dJ5_newCapacity_0f7a4_44 : decode cJ5_newCapacity_0f7a4 44 = .ok (.dup, 1) := by decide +kernel
theorem dJ5_newCapacity_0f7a4_45 : decode cJ5_newCapacity_0f7a4 45 = .ok (.ldc 122, 2) := by decide +kernel
theorem dJ5_newCapacity_0f7a4_47 : decode cJ5_newCapacity_0f7a4 47 = .ok (.invokespecial 124, 3) := by decide +kernel
theorem dJ5_newCapacity_0f7a4_50 : decode cJ5_newCapacity_0f7a4 50 = .ok (.athrow, 1) := by decide +kernel
theorem dJ5_newCapacity_0f7a4_51 : decode cJ5_newCapacity_0f7a4 51 = .ok (.iload 5, 2) := by decide +kernel
theorem dJ5_newCapacity_0f7a4_53 : decode cJ5_newCapacity_0f7a4 53 = .ok (.aload_n 0, 1) := by decide +kernel
theorem dJ5_newCapacity_0f7a4_54 : decode cJ5_newCapacity_0f7a4 54 = .ok (.getfield 22, 3) := by decide +kernel
theorem dJ5_newCapacity_0f7a4_57 : decode cJ5_newCapacity_0f7a4 57 = .ok (.ishr, 1) := by decide +kernel
theorem dJ5_newCapacity_0f7a4_58 : decode cJ5_newCapacity_0f7a4 58 = .ok (.ireturn, 1) := by decide +kernel
theorem dJ7_copyOf_9075b_0 : decode cJ7_copyOf_9075b 0 = .ok (.iload_n 1, 1) := by decide +kernel
theorem dJ7_copyOf_9075b_1 : decode cJ7_copyOf_9075b 1 = .ok (.aload_n 0, 1) := by decide +kernel
theorem dJ7_copyOf_9075b_2 : decode cJ7_copyOf_9075b 2 = .ok (.arraylength, 1) := by decide +kernel
theorem dJ7_copyOf_9075b_3 : decode cJ7_copyOf_9075b 3 = .ok (.if_icmp .ne 11, 3) := by decide +kernel
theorem dJ7_copyOf_9075b_6 : decode cJ7_copyOf_9075b 6 = .ok (.aload_n 0, 1) := by decide +kernel
theorem dJ7_copyOf_9075b_7 : decode cJ7_copyOf_9075b 7 = .ok (.invokevirtual 310, 3) := by decide +kernel
theorem dJ7_copyOf_9075b_10 : decode cJ7_copyOf_9075b 10 = .ok (.checkcast 311, 3) := by decide +kernel
theorem dJ7_copyOf_9075b_13 : decode cJ7_copyOf_9075b 13 = .ok (.areturn, 1) := by decide +kernel
theorem dJ7_copyOf_9075b_14 : decode cJ7_copyOf_9075b 14 = .ok (.iload_n 1, 1) := by decide +kernel
theorem dJ7_copyOf_9075b_15 : decode cJ7_copyOf_9075b 15 = .ok (.newarray .byte, 2) := by decide +kernel
theorem dJ7_copyOf_9075b_17 : decode cJ7_copyOf_9075b 17 = .ok (.astore_n 2, 1) := by decide +kernel
theorem dJ7_copyOf_9075b_18 : decode cJ7_copyOf_9075b 18 = .ok (.aload_n 0, 1) := by decide +kernel
theorem dJ7_copyOf_9075b_19 : decode cJ7_copyOf_9075b 19 = .ok (.iconst 0, 1) := by decide +kernel
theorem dJ7_copyOf_9075b_20 : decode cJ7_copyOf_9075b 20 = .ok (.aload_n 2, 1) := by decide +kernel
theorem dJ7_copyOf_9075b_21 : decode cJ7_copyOf_9075b 21 = .ok (.iconst 0, 1) := by decide +kernel
theorem dJ7_copyOf_9075b_22 : decode cJ7_copyOf_9075b 22 = .ok (.aload_n 0, 1) := by decide +kernel
theorem dJ7_copyOf_9075b_23 : decode cJ7_copyOf_9075b 23 = .ok (.arraylength, 1) := by decide +kernel
theorem dJ7_copyOf_9075b_24 : decode cJ7_copyOf_9075b 24 = .ok (.iload_n 1, 1) := by decide +kernel
theorem dJ7_copyOf_9075b_25 : decode cJ7_copyOf_9075b 25 = .ok (.invokestatic 304, 3) := by decide +kernel
theorem dJ7_copyOf_9075b_28 : decode cJ7_copyOf_9075b 28 = .ok (.invokestatic 150, 3) := by decide +kernel
theorem dJ7_copyOf_9075b_31 : decode cJ7_copyOf_9075b 31 = .ok (.aload_n 2, 1) := by decide +kernel
theorem dJ7_copyOf_9075b_32 : decode cJ7_copyOf_9075b 32 = .ok (.areturn, 1) := by decide +kernel
theorem dJ5_ensureCapacityInternal_d00df_0 : decode cJ5_ensureCapacityInternal_d00df 0 = .ok (.aload_n 0, 1) := by decide +kernel
theorem dJ5_ensureCapacityInternal_d00df_1 : decode cJ5_ensureCapacityInternal_d00df 1 = .ok (.getfield 15, 3) := by decide +kernel
theorem dJ5_ensureCapacityInternal_d00df_4 : decode cJ5_ensureCapacityInternal_d00df 4 = .ok (.arraylength, 1) := by decide +kernel
theorem dJ5_ensureCapacityInternal_d00df_5 : decode cJ5_ensureCapacityInternal_d00df 5 = .ok (.aload_n 0, 1) := by decide +kernel
theorem dJ5_ensureCapacityInternal_d00df_6 : decode cJ5_ensureCapacityInternal_d00df 6 = .ok (.getfield 22, 3) := by decide +kernel
theorem dJ5_ensureCapacityInternal_d00df_9 : decode cJ5_ensureCapacityInternal_d00df 9 = .ok (.ishr, 1) := by decide +kernel
theorem dJ5_ensureCapacityInternal_d00df_10 : decode cJ5_ensureCapacityInternal_d00df 10 = .ok (.istore_n 2, 1) := by decide +kernel
theorem dJ5_ensureCapacityInternal_d00df_11 : decode cJ5_ensureCapacityInternal_d00df 11 = .ok (.iload_n 1, 1) := by decide +kernel
theorem dJ5_ensureCapacityInternal_d00df_12 : decode cJ5_ensureCapacityInternal_d00df 12 = .ok (.iload_n 2, 1) := by decide +kernel
theorem dJ5_ensureCapacityInternal_d00df_13 : decode cJ5_ensureCapacityInternal_d00df 13 = .ok (.isub, 1) := by decide +kernel
theorem dJ5_ensureCapacityInternal_d00df_14 : decode cJ5_ensureCapacityInternal_d00df 14 = .ok (.ifCond .le 24, 3) := by decide +kernel
theorem dJ5_ensureCapacityInternal_d00df_17 : decode cJ5_ensureCapacityInternal_d00df 17 = .ok (.aload_n 0, 1) := by decide +kernel
theorem dJ5_ensureCapacityInternal_d00df_18 : decode cJ5_ensureCapacityInternal_d00df 18 = .ok (.aload_n 0, 1) := by decide +kernel
theorem dJ5_ensureCapacityInternal_d00df_19 : decode cJ5_ensureCapacityInternal_d00df 19 = .ok (.getfield 15, 3) := by decide +kernel
theorem dJ5_ensureCapacityInternal_d00df_22 : decode cJ5_ensureCapacityInternal_d00df 22 = .ok (.aload_n 0, 1) := by decide +kernel
theorem dJ5_ensureCapacityInternal_d00df_23 : decode cJ5_ensureCapacityInternal_d00df 23 = .ok (.iload_n 1, 1) := by decide +kernel
theorem dJ5_ensureCapacityInternal_d00df_24 : decode cJ5_ensureCapacityInternal_d00df 24 = .ok (.invokevirtual 104, 3) := by decide +kernel
theorem dJ5_ensureCapacityInternal_d00df_27 : decode cJ5_ensureCapacityInternal_d00df 27 = .ok (.aload_n 0, 1) := by decide +kernel
theorem dJ5_ensureCapacityInternal_d00df_28 : decode cJ5_ensureCapacityInternal_d00df 28 = .ok (.getfield 22, 3) := by decide +kernel
theorem dJ5_ensureCapacityInternal_d00df_31 : decode cJ5_ensureCapacityInternal_d00df 31 = .ok (.ishl, 1) := by decide +kernel
theorem dJ5_ensureCapacityInternal_d00df_32 : decode cJ5_ensureCapacityInternal_d00df 32 = .ok (.invokestatic 108, 3) := by decide +kernel
theorem dJ5_ensureCapacityInternal_d00df_35 : decode cJ5_ensureCapacityInternal_d00df 35 = .ok (.putfield 15, 3) := by decide +kernel
theorem dJ5_ensureCapacityInternal_d00df_38 : decode cJ5_ensureCapacityInternal_d00df 38 = .ok (.return_, 1) := by decide +kernel
theorem dJ5_isLatin1_aae02_0 : decode cJ5_isLatin1_aae02 0 = .ok (.getstatic 18, 3) := by decide +kernel
theorem dJ5_isLatin1_aae02_3 : decode cJ5_isLatin1_aae02 3 = .ok (.ifCond .eq 14, 3) := by decide +kernel
theorem dJ5_isLatin1_aae02_6 : decode cJ5_isLatin1_aae02 6 = .ok (.aload_n 0, 1) := by decide +kernel
theorem dJ5_isLatin1_aae02_7 : decode cJ5_isLatin1_aae02 7 = .ok (.getfield 22, 3) := by decide +kernel
theorem dJ5_isLatin1_aae02_10 : decode cJ5_isLatin1_aae02 10 = .ok (.ifCond .ne 7, 3) := by decide +kernel
theorem dJ5_isLatin1_aae02_13 : decode cJ5_isLatin1_aae02 13 = .ok (.iconst 1, 1) := by decide +kernel
theorem dJ5_isLatin1_aae02_14 : decode cJ5_isLatin1_aae02 14 = .ok (.goto 4, 3) := by decide +kernel
theorem dJ5_isLatin1_aae02_17 : decode cJ5_isLatin1_aae02 17 = .ok (.iconst 0, 1) := by decide +kernel
theorem dJ5_isLatin1_aae02_18 : decode cJ5_isLatin1_aae02 18 = .ok (.ireturn, 1) := by decide +kernel
theorem dJ1_canEncode_fc78d_0 : decode cJ1_canEncode_fc78d 0 = .ok (.iload_n 0, 1) := by decide +kernel
theorem dJ1_canEncode_fc78d_1 : decode cJ1_canEncode_fc78d 1 = .ok (.sipush 255, 3) := by decide +kernel
theorem dJ1_canEncode_fc78d_4 : decode cJ1_canEncode_fc78d 4 = .ok (.if_icmp .gt 7, 3) := by decide +kernel
theorem dJ1_canEncode_fc78d_7 : decode cJ1_canEncode_fc78d 7 = .ok (.iconst 1, 1) := by decide +kernel
theorem dJ1_canEncode_fc78d_8 : decode cJ1_canEncode_fc78d 8 = .ok (.goto 4, 3) := by decide +kernel
theorem dJ1_canEncode_fc78d_11 : decode cJ1_canEncode_fc78d 11 = .ok (.iconst 0, 1) := by decide +kernel
theorem dJ1_canEncode_fc78d_12 : decode cJ1_canEncode_fc78d 12 = .ok (.ireturn, 1) := by decide +kernel
theorem dJ5_append_3fe6f_0 : decode cJ5_append_3fe6f 0 = .ok (.aload_n 0, 1) := by decide +kernel
theorem dJ5_append_3fe6f_1 : decode cJ5_append_3fe6f 1 = .ok (.aload_n 0, 1) := by decide +kernel
theorem dJ5_append_3fe6f_2 : decode cJ5_append_3fe6f 2 = .ok (.getfield 79, 3) := by decide +kernel
theorem dJ5_append_3fe6f_5 : decode cJ5_append_3fe6f 5 = .ok (.iconst 1, 1) := by decide +kernel
theorem dJ5_append_3fe6f_6 : decode cJ5_append_3fe6f 6 = .ok (.iadd, 1) := by decide +kernel
theorem dJ5_append_3fe6f_7 : decode cJ5_append_3fe6f 7 = .ok (.invokevirtual 100, 3) := by decide +kernel
theorem dJ5_append_3fe6f_10 : decode cJ5_append_3fe6f 10 = .ok (.aload_n 0, 1) := by decide +kernel
theorem dJ5_append_3fe6f_11 : decode cJ5_append_3fe6f 11 = .ok (.invokevirtual 83, 3) := by decide +kernel
theorem dJ5_append_3fe6f_14 : decode cJ5_append_3fe6f 14 = .ok (.ifCond .eq 31, 3) := by decide +kernel
theorem dJ5_append_3fe6f_17 : decode cJ5_append_3fe6f 17 = .ok (.iload_n 1, 1) := by decide +kernel
theorem dJ5_append_3fe6f_18 : decode cJ5_append_3fe6f 18 = .ok (.invokestatic 191, 3) := by decide +kernel
theorem dJ5_append_3fe6f_21 : decode cJ5_append_3fe6f 21 = .ok (.ifCond .eq 24, 3) := by decide +kernel
theorem dJ5_append_3fe6f_24 : decode cJ5_append_3fe6f 24 = .ok (.aload_n 0, 1) := by decide +kernel
theorem dJ5_append_3fe6f_25 : decode cJ5_append_3fe6f 25 = .ok (.getfield 15, 3) := by decide +kernel
theorem dJ5_append_3fe6f_28 : decode cJ5_append_3fe6f 28 = .ok (.aload_n 0, 1) := by decide +kernel
theorem dJ5_append_3fe6f_29 : decode cJ5_append_3fe6f 29 = .ok (.dup, 1) := by decide +kernel
theorem dJ5_append_3fe6f_30 : decode cJ5_append_3fe6f 30 = .ok (.getfield 79, 3) := by decide +kernel
theorem dJ5_append_3fe6f_33 : decode cJ5_append_3fe6f 33 = .ok (.dup_x1, 1) := by decide +kernel
theorem dJ5_append_3fe6f_34 : decode cJ5_append_3fe6f 34 = .ok (.iconst 1, 1) := by decide +kernel
theorem dJ5_append_3fe6f_35 : decode cJ5_append_3fe6f 35 = .ok (.iadd, 1) := by decide +kernel
theorem dJ5_append_3fe6f_36 : decode cJ5_append_3fe6f 36 = .ok (.putfield 79, 3) := by decide +kernel
theorem dJ5_append_3fe6f_39 : decode cJ5_append_3fe6f 39 = .ok (.iload_n 1, 1) := by decide +kernel
theorem dJ5_append_3fe6f_40 : decode cJ5_append_3fe6f 40 = .ok (.i2b, 1) := by decide +kernel
theorem dJ5_append_3fe6f_41 : decode cJ5_append_3fe6f 41 = .ok (.bastore, 1) := by decide +kernel
theorem dJ5_append_3fe6f_42 : decode cJ5_append_3fe6f 42 = .ok (.goto 33, 3) := by decide +kernel
theorem dJ5_append_3fe6f_45 : decode cJ5_append_3fe6f 45 = .ok (.aload_n 0, 1) := by decide +kernel
theorem dJ5_append_3fe6f_46 : decode cJ5_append_3fe6f 46 = .ok (.invokevirtual 83, 3) := by decide +kernel
theorem dJ5_append_3fe6f_49 : decode cJ5_append_3fe6f 49 = .ok (.ifCond .eq 7, 3) := by decide +kernel
theorem dJ5_append_3fe6f_52 : decode cJ5_append_3fe6f 52 = .ok (.aload_n 0, 1) := by decide +kernel
theorem dJ5_append_3fe6f_53 : decode cJ5_append_3fe6f 53 = .ok (.invokevirtual 195, 3) := by decide +kernel
theorem dJ5_append_3fe6f_56 : decode cJ5_append_3fe6f 56 = .ok (.aload_n 0, 1) := by decide +kernel
theorem dJ5_append_3fe6f_57 : decode cJ5_append_3fe6f 57 = .ok (.getfield 15, 3) := by decide +kernel
theorem dJ5_append_3fe6f_60 : decode cJ5_append_3fe6f 60 = .ok (.aload_n 0, 1) := by decide +kernel
theorem dJ5_append_3fe6f_61 : decode cJ5_append_3fe6f 61 = .ok (.dup, 1) := by decide +kernel
theorem dJ5_append_3fe6f_62 : decode cJ5_append_3fe6f 62 = .ok (.getfield 79, 3) := by decide +kernel
theorem dJ5_append_3fe6f_65 : decode cJ5_append_3fe6f 65 = .ok (.dup_x1, 1) := by decide +kernel
theorem dJ5_append_3fe6f_66 : decode cJ5_append_3fe6f 66 = .ok (.iconst 1, 1) := by decide +kernel
theorem dJ5_append_3fe6f_67 : decode cJ5_append_3fe6f 67 = .ok (.iadd, 1) := by decide +kernel
theorem dJ5_append_3fe6f_68 : decode cJ5_append_3fe6f 68 = .ok (.putfield 79, 3) := by decide +kernel
theorem dJ5_append_3fe6f_71 : decode cJ5_append_3fe6f 71 = .ok (.iload_n 1, 1) := by decide +kernel
theorem dJ5_append_3fe6f_72 : decode cJ5_append_3fe6f 72 = .ok (.invokestatic 197, 3) := by decide +kernel
theorem dJ5_append_3fe6f_75 : decode cJ5_append_3fe6f 75 = .ok (.aload_n 0, 1) := by decide +kernel
theorem dJ5_append_3fe6f_76 : decode cJ5_append_3fe6f 76 = .ok (.areturn, 1) := by decide +kernel
theorem dJ4_append_cf468_0 : decode cJ4_append_cf468 0 = .ok (.aload_n 0, 1) := by decide +kernel
theorem dJ4_append_cf468_1 : decode cJ4_append_cf468 1 = .ok (.iload_n 1, 1) := by decide +kernel
theorem dJ4_append_cf468_2 : decode cJ4_append_cf468 2 = .ok (.invokespecial 50, 3) := by decide +kernel
theorem dJ4_append_cf468_5 : decode cJ4_append_cf468 5 = .ok (.pop, 1) := by decide +kernel
theorem dJ4_append_cf468_6 : decode cJ4_append_cf468 6 = .ok (.aload_n 0, 1) := by decide +kernel
theorem dJ4_append_cf468_7 : decode cJ4_append_cf468 7 = .ok (.areturn, 1) := by decide +kernel
theorem dJ5_getValue_6d5f1_0 : decode cJ5_getValue_6d5f1 0 = .ok (.aload_n 0, 1) := by decide +kernel
theorem dJ5_getValue_6d5f1_1 : decode cJ5_getValue_6d5f1 1 = .ok (.getfield 15, 3) := by decide +kernel
theorem dJ5_getValue_6d5f1_4 : decode cJ5_getValue_6d5f1 4 = .ok (.areturn, 1) := by decide +kernel
theorem dJ5_length_8abf5_0 : decode cJ5_length_8abf5 0 = .ok (.aload_n 0, 1) := by decide +kernel
theorem dJ5_length_8abf5_1 : decode cJ5_length_8abf5 1 = .ok (.getfield 79, 3) := by decide +kernel
theorem dJ5_length_8abf5_4 : decode cJ5_length_8abf5 4 = .ok (.ireturn, 1) := by decide +kernel
theorem dJ4_length_8abf5_0 : decode cJ4_length_8abf5 0 = .ok (.aload_n 0, 1) := by decide +kernel
theorem dJ4_length_8abf5_1 : decode cJ4_length_8abf5 1 = .ok (.invokespecial 343, 3) := by decide +kernel
theorem dJ4_length_8abf5_4 : decode cJ4_length_8abf5 4 = .ok (.ireturn, 1) := by decide +kernel
theorem dJ7_checkLength_df160_0 : decode cJ7_checkLength_df160 0 = .ok (.iload_n 1, 1) := by decide +kernel
theorem dJ7_checkLength_df160_1 : decode cJ7_checkLength_df160 1 = .ok (.iload_n 0, 1) := by decide +kernel
theorem dJ7_checkLength_df160_2 : decode cJ7_checkLength_df160 2 = .ok (.if_icmp .ge 35, 3) := by decide +kernel
theorem dJ7_checkLength_df160_5 : decode cJ7_checkLength_df160 5 = .ok (.new 43, 3) := by decide +kernel
theorem dJ7_checkLength_df160_8 : decode cJ7_checkLength_df160 8 = .ok (.dup, 1) := by decide +kernel
theorem dJ7_checkLength_df160_9 : decode cJ7_checkLength_df160 9 = .ok (.new 45, 3) := by decide +kernel
theorem dJ7_checkLength_df160_12 : decode cJ7_checkLength_df160 12 = .ok (.dup, 1) := by decide +kernel
theorem dJ7_checkLength_df160_13 : decode cJ7_checkLength_df160 13 = .ok (.invokespecial 47, 3) := by decide +kernel
theorem dJ7_checkLength_df160_16 : decode cJ7_checkLength_df160 16 = .ok (.iload_n 0, 1) := by decide +kernel
theorem dJ7_checkLength_df160_17 : decode cJ7_checkLength_df160 17 = .ok (.invokevirtual 54, 3) := by decide +kernel
theorem dJ7_checkLength_df160_20 : decode cJ7_checkLength_df160 20 = .ok (.ldc_w 337, 3) := by decide +kernel
theorem dJ7_checkLength_df160_23 : decode cJ7_checkLength_df160 23 = .ok (.invokevirtual 50, 3) := by decide +kernel
theorem dJ7_checkLength_df160_26 : decode cJ7_checkLength_df160 26 = .ok (.iload_n 1, 1) := by decide +kernel
theorem dJ7_checkLength_df160_27 : decode cJ7_checkLength_df160 27 = .ok (.invokevirtual 54, 3) := by decide +kernel
theorem dJ7_checkLength_df160_30 : decode cJ7_checkLength_df160 30 = .ok (.invokevirtual 61, 3) := by decide +kernel
theorem dJ7_checkLength_df160_33 : decode cJ7_checkLength_df160 33 = .ok (.invokespecial 65, 3) := by decide +kernel
theorem dJ7_checkLength_df160_36 : decode cJ7_checkLength_df160 36 = .ok (.athrow, 1) := by decide +kernel
theorem dJ7_checkLength_df160_37 : decode cJ7_checkLength_df160 37 = .ok (.return_, 1) := by decide +kernel
theorem dJ7_copyOfRangeByte_39247_0 : decode cJ7_copyOfRangeByte_39247 0 = .ok (.iload_n 1, 1) := by decide +kernel
theorem dJ7_copyOfRangeByte_39247_1 : decode cJ7_copyOfRangeByte_39247 1 = .ok (.iload_n 2, 1) := by decide +kernel
theorem dJ7_copyOfRangeByte_39247_2 : decode cJ7_copyOfRangeByte_39247 2 = .ok (.invokestatic 343, 3) := by decide +kernel
theorem dJ7_copyOfRangeByte_39247_5 : decode cJ7_copyOfRangeByte_39247 5 = .ok (.iload_n 2, 1) := by decide +kernel
theorem dJ7_copyOfRangeByte_39247_6 : decode cJ7_copyOfRangeByte_39247 6 = .ok (.iload_n 1, 1) := by decide +kernel
theorem dJ7_copyOfRangeByte_39247_7 : decode cJ7_copyOfRangeByte_39247 7 = .ok (.isub, 1) := by decide +kernel
theorem dJ7_copyOfRangeByte_39247_8 : decode cJ7_copyOfRangeByte_39247 8 = .ok (.istore_n 3, 1) := by decide +kernel
theorem dJ7_copyOfRangeByte_39247_9 : decode cJ7_copyOfRangeByte_39247 9 = .ok (.iload_n 3, 1) := by decide +kernel
theorem dJ7_copyOfRangeByte_39247_10 : decode cJ7_copyOfRangeByte_39247 10 = .ok (.newarray .byte, 2) := by decide +kernel
theorem dJ7_copyOfRangeByte_39247_12 : decode cJ7_copyOfRangeByte_39247 12 = .ok (.astore 4, 2) := by decide +kernel
theorem dJ7_copyOfRangeByte_39247_14 : decode cJ7_copyOfRangeByte_39247 14 = .ok (.aload_n 0, 1) := by decide +kernel
theorem dJ7_copyOfRangeByte_39247_15 : decode cJ7_copyOfRangeByte_39247 15 = .ok (.iload_n 1, 1) := by decide +kernel
theorem dJ7_copyOfRangeByte_39247_16 : decode cJ7_copyOfRangeByte_39247 16 = .ok (.aload 4, 2) := by decide +kernel
theorem dJ7_copyOfRangeByte_39247_18 : decode cJ7_copyOfRangeByte_39247 18 = .ok (.iconst 0, 1) := by decide +kernel
theorem dJ7_copyOfRangeByte_39247_19 : decode cJ7_copyOfRangeByte_39247 19 = .ok (.aload_n 0, 1) := by decide +kernel
theorem dJ7_copyOfRangeByte_39247_20 : decode cJ7_copyOfRangeByte_39247 20 = .ok (.arraylength, 1) := by decide +kernel
theorem dJ7_copyOfRangeByte_39247_21 : decode cJ7_copyOfRangeByte_39247 21 = .ok (.iload_n 1, 1) := by decide +kernel
theorem dJ7_copyOfRangeByte_39247_22 : decode cJ7_copyOfRangeByte_39247 22 = .ok (.isub, 1) := by decide +kernel
theorem dJ7_copyOfRangeByte_39247_23 : decode cJ7_copyOfRangeByte_39247 23 = .ok (.iload_n 3, 1) := by decide +kernel
theorem dJ7_copyOfRangeByte_39247_24 : decode cJ7_copyOfRangeByte_39247 24 = .ok (.invokestatic 304, 3) := by decide +kernel
theorem dJ7_copyOfRangeByte_39247_27 : decode cJ7_copyOfRangeByte_39247 27 = .ok (.invokestatic 150, 3) := by decide +kernel
theorem dJ7_copyOfRangeByte_39247_30 : decode cJ7_copyOfRangeByte_39247 30 = .ok (.aload 4, 2) := by decide +kernel
theorem dJ7_copyOfRangeByte_39247_32 : decode cJ7_copyOfRangeByte_39247 32 = .ok (.areturn, 1) := by decide +kernel
theorem dJ7_copyOfRange_39247_0 : decode cJ7_copyOfRange_39247 0 = .ok (.iload_n 1, 1) := by decide +kernel
theorem dJ7_copyOfRange_39247_1 : decode cJ7_copyOfRange_39247 1 = .ok (.ifCond .ne 9, 3) := by decide +kernel
theorem dJ7_copyOfRange_39247_4 : decode cJ7_copyOfRange_39247 4 = .ok (.iload_n 2, 1) := by decide +kernel
theorem dJ7_copyOfRange_39247_5 : decode cJ7_copyOfRange_39247 5 = .ok (.aload_n 0, 1) := by decide +kernel
theorem dJ7_copyOfRange_39247_6 : decode cJ7_copyOfRange_39247 6 = .ok (.arraylength, 1) := by decide +kernel
theorem dJ7_copyOfRange_39247_7 : decode cJ7_copyOfRange_39247 7 = .ok (.if_icmp .eq 10, 3) := by decide +kernel
theorem dJ7_copyOfRange_39247_10 : decode cJ7_copyOfRange_39247 10 = .ok (.aload_n 0, 1) := by decide +kernel
theorem dJ7_copyOfRange_39247_11 : decode cJ7_copyOfRange_39247 11 = .ok (.iload_n 1, 1) := by decide +kernel
theorem dJ7_copyOfRange_39247_12 : decode cJ7_copyOfRange_39247 12 = .ok (.iload_n 2, 1) := by decide +kernel
theorem dJ7_copyOfRange_39247_13 : decode cJ7_copyOfRange_39247 13 = .ok (.invokestatic 339, 3) := by decide +kernel
theorem dJ7_copyOfRange_39247_16 : decode cJ7_copyOfRange_39247 16 = .ok (.areturn, 1) := by decide +kernel
theorem dJ7_copyOfRange_39247_17 : decode cJ7_copyOfRange_39247 17 = .ok (.aload_n 0, 1) := by decide +kernel
theorem dJ7_copyOfRange_39247_18 : decode cJ7_copyOfRange_39247 18 = .ok (.invokevirtual 310, 3) := by decide +kernel
theorem dJ7_copyOfRange_39247_21 : decode cJ7_copyOfRange_39247 21 = .ok (.checkcast 311, 3) := by decide +kernel
theorem dJ7_copyOfRange_39247_24 : decode cJ7_copyOfRange_39247 24 = .ok (.areturn, 1) := by decide +kernel
theorem dJ0_init_db425_0 : decode cJ0_init_db425 0 = .ok (.aload_n 0, 1) := by decide +kernel
theorem dJ0_init_db425_1 : decode cJ0_init_db425 1 = .ok (.invokespecial 1, 3) := by decide +kernel
theorem dJ0_init_db425_4 : decode cJ0_init_db425 4 = .ok (.aload_n 1, 1) := by decide +kernel
theorem dJ0_init_db425_5 : decode cJ0_init_db425 5 = .ok (.invokevirtual 552, 3) := by decide +kernel
theorem dJ0_init_db425_8 : decode cJ0_init_db425 8 = .ok (.astore_n 3, 1) := by decide +kernel
theorem dJ0_init_db425_9 : decode cJ0_init_db425 9 = .ok (.aload_n 1, 1) := by decide +kernel
theorem dJ0_init_db425_10 : decode cJ0_init_db425 10 = .ok (.invokevirtual 549, 3) := by decide +kernel
theorem dJ0_init_db425_13 : decode cJ0_init_db425 13 = .ok (.istore 4, 2) := by decide +kernel
theorem dJ0_init_db425_15 : decode cJ0_init_db425 15 = .ok (.aload_n 1, 1) := by decide +kernel
theorem dJ0_init_db425_16 : decode cJ0_init_db425 16 = .ok (.invokevirtual 1047, 3) := by decide +kernel
theorem dJ0_init_db425_19 : decode cJ0_init_db425 19 = .ok (.ifCond .eq 22, 3) := by decide +kernel
theorem dJ0_init_db425_22 : decode cJ0_init_db425 22 = .ok (.aload_n 0, 1) := by decide +kernel
theorem dJ0_init_db425_23 : decode cJ0_init_db425 23 = .ok (.iconst 0, 1) := by decide +kernel
theorem dJ0_init_db425_24 : decode cJ0_init_db425 24 = .ok (.putfield 15, 3) := by decide +kernel
theorem dJ0_init_db425_27 : decode cJ0_init_db425 27 = .ok (.aload_n 0, 1) := by decide +kernel
theorem dJ0_init_db425_28 : decode cJ0_init_db425 28 = .ok (.aload_n 3, 1) := by decide +kernel
theorem dJ0_init_db425_29 : decode cJ0_init_db425 29 = .ok (.iconst 0, 1) := by decide +kernel
theorem dJ0_init_db425_30 : decode cJ0_init_db425 30 = .ok (.iload 4, 2) := by decide +kernel
theorem dJ0_init_db425_32 : decode cJ0_init_db425 32 = .ok (.invokestatic 54, 3) := by decide +kernel
theorem dJ0_init_db425_35 : decode cJ0_init_db425 35 = .ok (.putfield 9, 3) := by decide +kernel
theorem dJ0_init_db425_38 : decode cJ0_init_db425 38 = .ok (.goto 59, 3) := by decide +kernel
theorem dJ0_init_db425_41 : decode cJ0_init_db425 41 = .ok (.getstatic 38, 3) := by decide +kernel
theorem dJ0_init_db425_44 : decode cJ0_init_db425 44 = .ok (.ifCond .eq 35, 3) := by decide +kernel
theorem dJ0_init_db425_47 : decode cJ0_init_db425 47 = .ok (.aload_n 1, 1) := by decide +kernel
theorem dJ0_init_db425_48 : decode cJ0_init_db425 48 = .ok (.getfield 1048, 3) := by decide +kernel
theorem dJ0_init_db425_51 : decode cJ0_init_db425 51 = .ok (.ifCond .eq 28, 3) := by decide +kernel
theorem dJ0_init_db425_54 : decode cJ0_init_db425 54 = .ok (.aload_n 0, 1) := by decide +kernel
theorem dJ0_init_db425_55 : decode cJ0_init_db425 55 = .ok (.aload_n 3, 1) := by decide +kernel
theorem dJ0_init_db425_56 : decode cJ0_init_db425 56 = .ok (.iconst 0, 1) := by decide +kernel
theorem dJ0_init_db425_57 : decode cJ0_init_db425 57 = .ok (.iload 4, 2) := by decide +kernel
theorem dJ0_init_db425_59 : decode cJ0_init_db425 59 = .ok (.invokestatic 1051, 3) := by decide +kernel
theorem dJ0_init_db425_62 : decode cJ0_init_db425 62 = .ok (.putfield 9, 3) := by decide +kernel
theorem dJ0_init_db425_65 : decode cJ0_init_db425 65 = .ok (.aload_n 0, 1) := by decide +kernel
theorem dJ0_init_db425_66 : decode cJ0_init_db425 66 = .ok (.aload_n 0, 1) := by decide +kernel
theorem dJ0_init_db425_67 : decode cJ0_init_db425 67 = .ok (.getfield 9, 3) := by decide +kernel
theorem dJ0_init_db425_70 : decode cJ0_init_db425 70 = .ok (.iload 4, 2) := by decide +kernel
theorem dJ0_init_db425_72 : decode cJ0_init_db425 72 = .ok (.invokestatic 47, 3) := by decide +kernel
theorem dJ0_init_db425_75 : decode cJ0_init_db425 75 = .ok (.putfield 15, 3) := by decide +kernel
theorem dJ0_init_db425_78 : decode cJ0_init_db425 78 = .ok (.return_, 1) := by decide +kernel
theorem dJ0_init_db425_79 : decode cJ0_init_db425 79 = .ok (.aload_n 0, 1) := by decide +kernel
theorem dJ0_init_db425_80 : decode cJ0_init_db425 80 = .ok (.iconst 1, 1) := by decide +kernel
theorem dJ0_init_db425_81 : decode cJ0_init_db425 81 = .ok (.putfield 15, 3) := by decide +kernel
theorem dJ0_init_db425_84 : decode cJ0_init_db425 84 = .ok (.aload_n 0, 1) := by decide +kernel
theorem dJ0_init_db425_85 : decode cJ0_init_db425 85 = .ok (.aload_n 3, 1) := by decide +kernel
theorem dJ0_init_db425_86 : decode cJ0_init_db425 86 = .ok (.iconst 0, 1) := by decide +kernel
theorem dJ0_init_db425_87 : decode cJ0_init_db425 87 = .ok (.iload 4, 2) := by decide +kernel
theorem dJ0_init_db425_89 : decode cJ0_init_db425 89 = .ok (.iconst 1, 1) := by decide +kernel
theorem dJ0_init_db425_90 : decode cJ0_init_db425 90 = .ok (.ishl, 1) := by decide +kernel
theorem dJ0_init_db425_91 : decode cJ0_init_db425 91 = .ok (.invokestatic 54, 3) := by decide +kernel
theorem dJ0_init_db425_94 : decode cJ0_init_db425 94 = .ok (.putfield 9, 3) := by decide +kernel
theorem dJ0_init_db425_97 : decode cJ0_init_db425 97 = .ok (.return_, 1) := by decide +kernel
theorem dJ0_init_81219_0 : decode cJ0_init_81219 0 = .ok (.aload_n 0, 1) := by decide +kernel
theorem dJ0_init_81219_1 : decode cJ0_init_81219 1 = .ok (.aload_n 1, 1) := by decide +kernel
theorem dJ0_init_81219_2 : decode cJ0_init_81219 2 = .ok (.aconst_null, 1) := by decide +kernel
theorem dJ0_init_81219_3 : decode cJ0_init_81219 3 = .ok (.invokespecial 489, 3) := by decide +kernel
theorem dJ0_init_81219_6 : decode cJ0_init_81219 6 = .ok (.return_, 1) := by decide +kernel
theorem dJ4_toString_0e30d_0 : decode cJ4_toString_0e30d 0 = .ok (.new 18, 3) := by decide +kernel
theorem dJ4_toString_0e30d_3 : decode cJ4_toString_0e30d 3 = .ok (.dup, 1) := by decide +kernel
theorem dJ4_toString_0e30d_4 : decode cJ4_toString_0e30d 4 = .ok (.aload_n 0, 1) := by decide +kernel
theorem dJ4_toString_0e30d_5 : decode cJ4_toString_0e30d 5 = .ok (.invokespecial 137, 3) := by decide +kernel
theorem dJ4_toString_0e30d_8 : decode cJ4_toString_0e30d 8 = .ok (.areturn, 1) := by decide +kernel
theorem dL_told_0 : decode cL_told 0 = .ok (.new 224, 3) := by decide +kernel
theorem dL_told_3 : decode cL_told 3 = .ok (.dup, 1) := by decide +kernel
theorem dL_told_4 : decode cL_told 4 = .ok (.invokespecial 226, 3) := by decide +kernel
theorem dL_told_7 : decode cL_told 7 = .ok (.astore_n 1, 1) := by decide +kernel
theorem dL_told_8 : decode cL_told 8 = .ok (.aload_n 0, 1) := by decide +kernel
theorem dL_told_9 : decode cL_told 9 = .ok (.astore_n 2, 1) := by decide +kernel
theorem dL_told_10 : decode cL_told 10 = .ok (.aload_n 2, 1) := by decide +kernel
theorem dL_told_11 : decode cL_told 11 = .ok (.arraylength, 1) := by decide +kernel
theorem dL_told_12 : decode cL_told 12 = .ok (.istore_n 3, 1) := by decide +kernel
theorem dL_told_13 : decode cL_told 13 = .ok (.iconst 0, 1) := by decide +kernel
theorem dL_told_14 : decode cL_told 14 = .ok (.istore 4, 2) := by decide +kernel
theorem dL_told_16 : decode cL_told 16 = .ok (.iload 4, 2) := by decide +kernel
theorem dL_told_18 : decode cL_told 18 = .ok (.iload_n 3, 1) := by decide +kernel
theorem dL_told_19 : decode cL_told 19 = .ok (.if_icmp .ge 32, 3) := by decide +kernel
theorem dL_told_22 : decode cL_told 22 = .ok (.aload_n 2, 1) := by decide +kernel
theorem dL_told_23 : decode cL_told 23 = .ok (.iload 4, 2) := by decide +kernel
theorem dL_told_25 : decode cL_told 25 = .ok (.baload, 1) := by decide +kernel
theorem dL_told_26 : decode cL_told 26 = .ok (.istore 5, 2) := by decide +kernel
theorem dL_told_28 : decode cL_told 28 = .ok (.aload_n 1, 1) := by decide +kernel
theorem dL_told_29 : decode cL_told 29 = .ok (.iload 5, 2) := by decide +kernel
theorem dL_told_31 : decode cL_told 31 = .ok (.ifCond .eq 8, 3) := by decide +kernel
theorem dL_told_34 : decode cL_told 34 = .ok (.bipush 35, 2) := by decide +kernel
theorem dL_told_36 : decode cL_told 36 = .ok (.goto 5, 3) := by decide +kernel
theorem dL_told_39 : decode cL_told 39 = .ok (.bipush 46, 2) := by decide +kernel
theorem dL_told_41 : decode cL_told 41 = .ok (.invokevirtual 227, 3) := by decide +kernel
theorem dL_told_44 : decode cL_told 44 = .ok (.pop, 1) := by decide +kernel
theorem dL_told_45 : decode cL_told 45 = .ok (.iinc 4 1, 3) := by decide +kernel
theorem dL_told_48 : decode cL_told 48 = .ok (.goto (-32), 3) := by decide +kernel
theorem dL_told_51 : decode cL_told 51 = .ok (.aload_n 1, 1) := by decide +kernel
theorem dL_told_52 : decode cL_told 52 = .ok (.invokevirtual 231, 3) := by decide +kernel
theorem dL_told_55 : decode cL_told 55 = .ok (.areturn, 1) := by decide +kernel
theorem dL_feed_0 : decode cL_feed 0 = .ok (.aload_n 0, 1) := by decide +kernel
theorem dL_feed_1 : decode cL_feed 1 = .ok (.iconst 0, 1) := by decide +kernel
theorem dL_feed_2 : decode cL_feed 2 = .ok (.invokevirtual 235, 3) := by decide +kernel
theorem dL_feed_5 : decode cL_feed 5 = .ok (.istore_n 2, 1) := by decide +kernel
theorem dL_feed_6 : decode cL_feed 6 = .ok (.iconst 0, 1) := by decide +kernel
theorem dL_feed_7 : decode cL_feed 7 = .ok (.istore_n 3, 1) := by decide +kernel
theorem dL_feed_8 : decode cL_feed 8 = .ok (.iload_n 3, 1) := by decide +kernel
theorem dL_feed_9 : decode cL_feed 9 = .ok (.aload_n 1, 1) := by decide +kernel
theorem dL_feed_10 : decode cL_feed 10 = .ok (.invokevirtual 238, 3) := by decide +kernel
theorem dL_feed_13 : decode cL_feed 13 = .ok (.if_icmp .ge 64, 3) := by decide +kernel
theorem dL_feed_16 : decode cL_feed 16 = .ok (.iconst 0, 1) := by decide +kernel
theorem dL_feed_17 : decode cL_feed 17 = .ok (.istore 4, 2) := by decide +kernel
theorem dL_feed_19 : decode cL_feed 19 = .ok (.iload_n 3, 1) := by decide +kernel
theorem dL_feed_20 : decode cL_feed 20 = .ok (.istore 5, 2) := by decide +kernel
theorem dL_feed_22 : decode cL_feed 22 = .ok (.iload 5, 2) := by decide +kernel
theorem dL_feed_24 : decode cL_feed 24 = .ok (.iload_n 3, 1) := by decide +kernel
theorem dL_feed_25 : decode cL_feed 25 = .ok (.iconst 4, 1) := by decide +kernel
theorem dL_feed_26 : decode cL_feed 26 = .ok (.iadd, 1) := by decide +kernel
theorem dL_feed_27 : decode cL_feed 27 = .ok (.if_icmp .ge 37, 3) := by decide +kernel
theorem dL_feed_30 : decode cL_feed 30 = .ok (.iload 4, 2) := by decide +kernel
theorem dL_feed_32 : decode cL_feed 32 = .ok (.bipush 8, 2) := by decide +kernel
theorem dL_feed_34 : decode cL_feed 34 = .ok (.ishl, 1) := by decide +kernel
theorem dL_feed_35 : decode cL_feed 35 = .ok (.iload 5, 2) := by decide +kernel
theorem dL_feed_37 : decode cL_feed 37 = .ok (.aload_n 1, 1) := by decide +kernel
theorem dL_feed_38 : decode cL_feed 38 = .ok (.invokevirtual 238, 3) := by decide +kernel
theorem dL_feed_41 : decode cL_feed 41 = .ok (.if_icmp .ge 12, 3) := by decide +kernel
theorem dL_feed_44 : decode cL_feed 44 = .ok (.aload_n 1, 1) := by decide +kernel
theorem dL_feed_45 : decode cL_feed 45 = .ok (.iload 5, 2) := by decide +kernel
theorem dL_feed_47 : decode cL_feed 47 = .ok (.invokevirtual 243, 3) := by decide +kernel
theorem dL_feed_50 : decode cL_feed 50 = .ok (.goto 5, 3) := by decide +kernel
theorem dL_feed_53 : decode cL_feed 53 = .ok (.bipush 32, 2) := by decide +kernel
theorem dL_feed_55 : decode cL_feed 55 = .ok (.ior, 1) := by decide +kernel
theorem dL_feed_56 : decode cL_feed 56 = .ok (.istore 4, 2) := by decide +kernel
theorem dL_feed_58 : decode cL_feed 58 = .ok (.iinc 5 1, 3) := by decide +kernel
theorem dL_feed_61 : decode cL_feed 61 = .ok (.goto (-39), 3) := by decide +kernel
theorem dL_feed_64 : decode cL_feed 64 = .ok (.aload_n 0, 1) := by decide +kernel
theorem dL_feed_65 : decode cL_feed 65 = .ok (.iload 4, 2) := by decide +kernel
theorem dL_feed_67 : decode cL_feed 67 = .ok (.invokevirtual 247, 3) := by decide +kernel
theorem dL_feed_70 : decode cL_feed 70 = .ok (.istore_n 2, 1) := by decide +kernel
theorem dL_feed_71 : decode cL_feed 71 = .ok (.iinc 3 4, 3) := by decide +kernel
theorem dL_feed_74 : decode cL_feed 74 = .ok (.goto (-66), 3) := by decide +kernel
theorem dL_feed_77 : decode cL_feed 77 = .ok (.aload_n 0, 1) := by decide +kernel
theorem dL_feed_78 : decode cL_feed 78 = .ok (.aload_n 1, 1) := by decide +kernel
theorem dL_feed_79 : decode cL_feed 79 = .ok (.invokevirtual 238, 3) := by decide +kernel
theorem dL_feed_82 : decode cL_feed 82 = .ok (.invokevirtual 235, 3) := by decide +kernel
theorem dL_feed_85 : decode cL_feed 85 = .ok (.istore_n 2, 1) := by decide +kernel
theorem dL_feed_86 : decode cL_feed 86 = .ok (.return_, 1) := by decide +kernel
theorem dL_drawnRow_0 : decode cL_drawnRow 0 = .ok (.aload_n 1, 1) := by decide +kernel
theorem dL_drawnRow_1 : decode cL_drawnRow 1 = .ok (.arraylength, 1) := by decide +kernel
theorem dL_drawnRow_2 : decode cL_drawnRow 2 = .ok (.newarray .boolean, 2) := by decide +kernel
theorem dL_drawnRow_4 : decode cL_drawnRow 4 = .ok (.astore_n 2, 1) := by decide +kernel
theorem dL_drawnRow_5 : decode cL_drawnRow 5 = .ok (.aload_n 0, 1) := by decide +kernel
theorem dL_drawnRow_6 : decode cL_drawnRow 6 = .ok (.iconst 5, 1) := by decide +kernel
theorem dL_drawnRow_7 : decode cL_drawnRow 7 = .ok (.invokevirtual 211, 3) := by decide +kernel
theorem dL_drawnRow_10 : decode cL_drawnRow 10 = .ok (.iconst 2, 1) := by decide +kernel
theorem dL_drawnRow_11 : decode cL_drawnRow 11 = .ok (.isub, 1) := by decide +kernel
theorem dL_drawnRow_12 : decode cL_drawnRow 12 = .ok (.istore_n 3, 1) := by decide +kernel
theorem dL_drawnRow_13 : decode cL_drawnRow 13 = .ok (.iconst 0, 1) := by decide +kernel
theorem dL_drawnRow_14 : decode cL_drawnRow 14 = .ok (.istore 4, 2) := by decide +kernel
theorem dL_drawnRow_16 : decode cL_drawnRow 16 = .ok (.iload 4, 2) := by decide +kernel
theorem dL_drawnRow_18 : decode cL_drawnRow 18 = .ok (.aload_n 2, 1) := by decide +kernel
theorem dL_drawnRow_19 : decode cL_drawnRow 19 = .ok (.arraylength, 1) := by decide +kernel
theorem dL_drawnRow_20 : decode cL_drawnRow 20 = .ok (.if_icmp .ge 43, 3) := by decide +kernel
theorem dL_drawnRow_23 : decode cL_drawnRow 23 = .ok (.aload_n 2, 1) := by decide +kernel
theorem dL_drawnRow_24 : decode cL_drawnRow 24 = .ok (.iload 4, 2) := by decide +kernel
theorem dL_drawnRow_26 : decode cL_drawnRow 26 = .ok (.iload 4, 2) := by decide +kernel
theorem dL_drawnRow_28 : decode cL_drawnRow 28 = .ok (.iload_n 3, 1) := by decide +kernel
theorem dL_drawnRow_29 : decode cL_drawnRow 29 = .ok (.isub, 1) := by decide +kernel
theorem dL_drawnRow_30 : decode cL_drawnRow 30 = .ok (.ifCond .lt 25, 3) := by decide +kernel
theorem dL_drawnRow_33 : decode cL_drawnRow 33 = .ok (.iload 4, 2) := by decide +kernel
theorem dL_drawnRow_35 : decode cL_drawnRow 35 = .ok (.iload_n 3, 1) := by decide +kernel
theorem dL_drawnRow_36 : decode cL_drawnRow 36 = .ok (.isub, 1) := by decide +kernel
theorem dL_drawnRow_37 : decode cL_drawnRow 37 = .ok (.aload_n 2, 1) := by decide +kernel
theorem dL_drawnRow_38 : decode cL_drawnRow 38 = .ok (.arraylength, 1) := by decide +kernel
theorem dL_drawnRow_39 : decode cL_drawnRow 39 = .ok (.if_icmp .ge 16, 3) := by decide +kernel
theorem dL_drawnRow_42 : decode cL_drawnRow 42 = .ok (.aload_n 1, 1) := by decide +kernel
theorem dL_drawnRow_43 : decode cL_drawnRow 43 = .ok (.iload 4, 2) := by decide +kernel
theorem dL_drawnRow_45 : decode cL_drawnRow 45 = .ok (.iload_n 3, 1) := by decide +kernel
theorem dL_drawnRow_46 : decode cL_drawnRow 46 = .ok (.isub, 1) := by decide +kernel
theorem dL_drawnRow_47 : decode cL_drawnRow 47 = .ok (.baload, 1) := by decide +kernel
theorem dL_drawnRow_48 : decode cL_drawnRow 48 = .ok (.ifCond .eq 7, 3) := by decide +kernel
theorem dL_drawnRow_51 : decode cL_drawnRow 51 = .ok (.iconst 1, 1) := by decide +kernel
theorem dL_drawnRow_52 : decode cL_drawnRow 52 = .ok (.goto 4, 3) := by decide +kernel
theorem dL_drawnRow_55 : decode cL_drawnRow 55 = .ok (.iconst 0, 1) := by decide +kernel
theorem dL_drawnRow_56 : decode cL_drawnRow 56 = .ok (.bastore, 1) := by decide +kernel
theorem dL_drawnRow_57 : decode cL_drawnRow 57 = .ok (.iinc 4 1, 3) := by decide +kernel
theorem dL_drawnRow_60 : decode cL_drawnRow 60 = .ok (.goto (-44), 3) := by decide +kernel
theorem dL_drawnRow_63 : decode cL_drawnRow 63 = .ok (.aload_n 0, 1) := by decide +kernel
theorem dL_drawnRow_64 : decode cL_drawnRow 64 = .ok (.iconst 3, 1) := by decide +kernel
theorem dL_drawnRow_65 : decode cL_drawnRow 65 = .ok (.invokevirtual 211, 3) := by decide +kernel
theorem dL_drawnRow_68 : decode cL_drawnRow 68 = .ok (.istore 4, 2) := by decide +kernel
theorem dL_drawnRow_70 : decode cL_drawnRow 70 = .ok (.iload 4, 2) := by decide +kernel
theorem dL_drawnRow_72 : decode cL_drawnRow 72 = .ok (.ifCond .lt 69, 3) := by decide +kernel
theorem dL_drawnRow_75 : decode cL_drawnRow 75 = .ok (.aload_n 0, 1) := by decide +kernel
theorem dL_drawnRow_76 : decode cL_drawnRow 76 = .ok (.aload_n 2, 1) := by decide +kernel
theorem dL_drawnRow_77 : decode cL_drawnRow 77 = .ok (.arraylength, 1) := by decide +kernel
theorem dL_drawnRow_78 : decode cL_drawnRow 78 = .ok (.invokevirtual 211, 3) := by decide +kernel
theorem dL_drawnRow_81 : decode cL_drawnRow 81 = .ok (.istore 5, 2) := by decide +kernel
theorem dL_drawnRow_83 : decode cL_drawnRow 83 = .ok (.aload_n 0, 1) := by decide +kernel
theorem dL_drawnRow_84 : decode cL_drawnRow 84 = .ok (.iconst 2, 1) := by decide +kernel
theorem dL_drawnRow_85 : decode cL_drawnRow 85 = .ok (.invokevirtual 211, 3) := by decide +kernel
theorem dL_drawnRow_88 : decode cL_drawnRow 88 = .ok (.ifCond .ne 7, 3) := by decide +kernel
theorem dL_drawnRow_91 : decode cL_drawnRow 91 = .ok (.iconst 1, 1) := by decide +kernel
theorem dL_drawnRow_92 : decode cL_drawnRow 92 = .ok (.goto 4, 3) := by decide +kernel
theorem dL_drawnRow_95 : decode cL_drawnRow 95 = .ok (.iconst 0, 1) := by decide +kernel
theorem dL_drawnRow_96 : decode cL_drawnRow 96 = .ok (.istore 6, 2) := by decide +kernel
theorem dL_drawnRow_98 : decode cL_drawnRow 98 = .ok (.iload 5, 2) := by decide +kernel
theorem dL_drawnRow_100 : decode cL_drawnRow 100 = .ok (.istore 7, 2) := by decide +kernel
theorem dL_drawnRow_102 : decode cL_drawnRow 102 = .ok (.iload 7, 2) := by decide +kernel
theorem dL_drawnRow_104 : decode cL_drawnRow 104 = .ok (.aload_n 2, 1) := by decide +kernel
theorem dL_drawnRow_105 : decode cL_drawnRow 105 = .ok (.arraylength, 1) := by decide +kernel
theorem dL_drawnRow_106 : decode cL_drawnRow 106 = .ok (.iload 5, 2) := by decide +kernel
theorem dL_drawnRow_108 : decode cL_drawnRow 108 = .ok (.iconst 1, 1) := by decide +kernel
theorem dL_drawnRow_109 : decode cL_drawnRow 109 = .ok (.iadd, 1) := by decide +kernel
theorem dL_drawnRow_110 : decode cL_drawnRow 110 = .ok (.aload_n 0, 1) := by decide +kernel
theorem dL_drawnRow_111 : decode cL_drawnRow 111 = .ok (.bipush 9, 2) := by decide +kernel
theorem dL_drawnRow_113 : decode cL_drawnRow 113 = .ok (.invokevirtual 211, 3) := by decide +kernel
theorem dL_drawnRow_116 : decode cL_drawnRow 116 = .ok (.iadd, 1) := by decide +kernel
theorem dL_drawnRow_117 : decode cL_drawnRow 117 = .ok (.invokestatic 250, 3) := by decide +kernel
theorem dL_drawnRow_120 : decode cL_drawnRow 120 = .ok (.if_icmp .ge 15, 3) := by decide +kernel
theorem dL_drawnRow_123 : decode cL_drawnRow 123 = .ok (.aload_n 2, 1) := by decide +kernel
theorem dL_drawnRow_124 : decode cL_drawnRow 124 = .ok (.iload 7, 2) := by decide +kernel
theorem dL_drawnRow_126 : decode cL_drawnRow 126 = .ok (.iload 6, 2) := by decide +kernel
theorem dL_drawnRow_128 : decode cL_drawnRow 128 = .ok (.bastore, 1) := by decide +kernel
theorem dL_drawnRow_129 : decode cL_drawnRow 129 = .ok (.iinc 7 1, 3) := by decide +kernel
theorem dL_drawnRow_132 : decode cL_drawnRow 132 = .ok (.goto (-30), 3) := by decide +kernel
theorem dL_drawnRow_135 : decode cL_drawnRow 135 = .ok (.iinc 4 (-1), 3) := by decide +kernel
theorem dL_drawnRow_138 : decode cL_drawnRow 138 = .ok (.goto (-68), 3) := by decide +kernel
theorem dL_drawnRow_141 : decode cL_drawnRow 141 = .ok (.aload_n 2, 1) := by decide +kernel
theorem dL_drawnRow_142 : decode cL_drawnRow 142 = .ok (.areturn, 1) := by decide +kernel
theorem dX10_init_0 : decode cX10_init 0 = .ok (.aload_n 0, 1) := by decide +kernel
theorem dX10_init_1 : decode cX10_init 1 = .ok (.invokespecial 1, 3) := by decide +kernel
theorem dX10_init_4 : decode cX10_init 4 = .ok (.aload_n 0, 1) := by decide +kernel
theorem dX10_init_5 : decode cX10_init 5 = .ok (.aload_n 1, 1) := by decide +kernel
theorem dX10_init_6 : decode cX10_init 6 = .ok (.putfield 7, 3) := by decide +kernel
theorem dX10_init_9 : decode cX10_init 9 = .ok (.return_, 1) := by decide +kernel
theorem dJ5_inflateIfNeededFor_a7421_0 : decode cJ5_inflateIfNeededFor_a7421 0 = .ok (.getstatic 18, 3) := by decide +kernel
theorem dJ5_inflateIfNeededFor_a7421_3 : decode cJ5_inflateIfNeededFor_a7421 3 = .ok (.ifCond .eq 18, 3) := by decide +kernel
theorem dJ5_inflateIfNeededFor_a7421_6 : decode cJ5_inflateIfNeededFor_a7421 6 = .ok (.aload_n 0, 1) := by decide +kernel
theorem dJ5_inflateIfNeededFor_a7421_7 : decode cJ5_inflateIfNeededFor_a7421 7 = .ok (.getfield 22, 3) := by decide +kernel
theorem dJ5_inflateIfNeededFor_a7421_10 : decode cJ5_inflateIfNeededFor_a7421 10 = .ok (.aload_n 1, 1) := by decide +kernel
theorem dJ5_inflateIfNeededFor_a7421_11 : decode cJ5_inflateIfNeededFor_a7421 11 = .ok (.invokevirtual 40, 3) := by decide +kernel
theorem dJ5_inflateIfNeededFor_a7421_14 : decode cJ5_inflateIfNeededFor_a7421 14 = .ok (.if_icmp .eq 7, 3) := by decide +kernel
theorem dJ5_inflateIfNeededFor_a7421_17 : decode cJ5_inflateIfNeededFor_a7421 17 = .ok (.aload_n 0, 1) := by decide +kernel
theorem dJ5_inflateIfNeededFor_a7421_18 : decode cJ5_inflateIfNeededFor_a7421 18 = .ok (.invokevirtual 195, 3) := by decide +kernel
theorem dJ5_inflateIfNeededFor_a7421_21 : decode cJ5_inflateIfNeededFor_a7421 21 = .ok (.return_, 1) := by decide +kernel
theorem dJ0_getBytes_840e7_0 : decode cJ0_getBytes_840e7 0 = .ok (.aload_n 0, 1) := by decide +kernel
theorem dJ0_getBytes_840e7_1 : decode cJ0_getBytes_840e7 1 = .ok (.invokevirtual 335, 3) := by decide +kernel
theorem dJ0_getBytes_840e7_4 : decode cJ0_getBytes_840e7 4 = .ok (.iload_n 3, 1) := by decide +kernel
theorem dJ0_getBytes_840e7_5 : decode cJ0_getBytes_840e7 5 = .ok (.if_icmp .ne 23, 3) := by decide +kernel
theorem dJ0_getBytes_840e7_8 : decode cJ0_getBytes_840e7 8 = .ok (.aload_n 0, 1) := by decide +kernel
theorem dJ0_getBytes_840e7_9 : decode cJ0_getBytes_840e7 9 = .ok (.getfield 9, 3) := by decide +kernel
theorem dJ0_getBytes_840e7_12 : decode cJ0_getBytes_840e7 12 = .ok (.iconst 0, 1) := by decide +kernel
theorem dJ0_getBytes_840e7_13 : decode cJ0_getBytes_840e7 13 = .ok (.aload_n 1, 1) := by decide +kernel
theorem dJ0_getBytes_840e7_14 : decode cJ0_getBytes_840e7 14 = .ok (.iload_n 2, 1) := by decide +kernel
theorem dJ0_getBytes_840e7_15 : decode cJ0_getBytes_840e7 15 = .ok (.iload_n 3, 1) := by decide +kernel
theorem dJ0_getBytes_840e7_16 : decode cJ0_getBytes_840e7 16 = .ok (.ishl, 1) := by decide +kernel
theorem dJ0_getBytes_840e7_17 : decode cJ0_getBytes_840e7 17 = .ok (.aload_n 0, 1) := by decide +kernel
theorem dJ0_getBytes_840e7_18 : decode cJ0_getBytes_840e7 18 = .ok (.getfield 9, 3) := by decide +kernel
theorem dJ0_getBytes_840e7_21 : decode cJ0_getBytes_840e7 21 = .ok (.arraylength, 1) := by decide +kernel
theorem dJ0_getBytes_840e7_22 : decode cJ0_getBytes_840e7 22 = .ok (.invokestatic 212, 3) := by decide +kernel
theorem dJ0_getBytes_840e7_25 : decode cJ0_getBytes_840e7 25 = .ok (.goto 18, 3) := by decide +kernel
theorem dJ0_getBytes_840e7_28 : decode cJ0_getBytes_840e7 28 = .ok (.aload_n 0, 1) := by decide +kernel
theorem dJ0_getBytes_840e7_29 : decode cJ0_getBytes_840e7 29 = .ok (.getfield 9, 3) := by decide +kernel
theorem dJ0_getBytes_840e7_32 : decode cJ0_getBytes_840e7 32 = .ok (.iconst 0, 1) := by decide +kernel
theorem dJ0_getBytes_840e7_33 : decode cJ0_getBytes_840e7 33 = .ok (.aload_n 1, 1) := by decide +kernel
theorem dJ0_getBytes_840e7_34 : decode cJ0_getBytes_840e7 34 = .ok (.iload_n 2, 1) := by decide +kernel
theorem dJ0_getBytes_840e7_35 : decode cJ0_getBytes_840e7 35 = .ok (.aload_n 0, 1) := by decide +kernel
theorem dJ0_getBytes_840e7_36 : decode cJ0_getBytes_840e7 36 = .ok (.getfield 9, 3) := by decide +kernel
theorem dJ0_getBytes_840e7_39 : decode cJ0_getBytes_840e7 39 = .ok (.arraylength, 1) := by decide +kernel
theorem dJ0_getBytes_840e7_40 : decode cJ0_getBytes_840e7 40 = .ok (.invokestatic 106, 3) := by decide +kernel
theorem dJ0_getBytes_840e7_43 : decode cJ0_getBytes_840e7 43 = .ok (.return_, 1) := by decide +kernel
theorem dJ5_putStringAt_47b60_0 : decode cJ5_putStringAt_47b60 0 = .ok (.aload_n 0, 1) := by decide +kernel
theorem dJ5_putStringAt_47b60_1 : decode cJ5_putStringAt_47b60 1 = .ok (.aload_n 2, 1) := by decide +kernel
theorem dJ5_putStringAt_47b60_2 : decode cJ5_putStringAt_47b60 2 = .ok (.invokevirtual 397, 3) := by decide +kernel
theorem dJ5_putStringAt_47b60_5 : decode cJ5_putStringAt_47b60 5 = .ok (.aload_n 2, 1) := by decide +kernel
theorem dJ5_putStringAt_47b60_6 : decode cJ5_putStringAt_47b60 6 = .ok (.aload_n 0, 1) := by decide +kernel
theorem dJ5_putStringAt_47b60_7 : decode cJ5_putStringAt_47b60 7 = .ok (.getfield 15, 3) := by decide +kernel
theorem dJ5_putStringAt_47b60_10 : decode cJ5_putStringAt_47b60 10 = .ok (.iload_n 1, 1) := by decide +kernel
theorem dJ5_putStringAt_47b60_11 : decode cJ5_putStringAt_47b60 11 = .ok (.aload_n 0, 1) := by decide +kernel
theorem dJ5_putStringAt_47b60_12 : decode cJ5_putStringAt_47b60 12 = .ok (.getfield 22, 3) := by decide +kernel
theorem dJ5_putStringAt_47b60_15 : decode cJ5_putStringAt_47b60 15 = .ok (.invokevirtual 399, 3) := by decide +kernel
theorem dJ5_putStringAt_47b60_18 : decode cJ5_putStringAt_47b60 18 = .ok (.return_, 1) := by decide +kernel
theorem dJ5_append_cf1ce_0 : decode cJ5_append_cf1ce 0 = .ok (.aload_n 1, 1) := by decide +kernel
theorem dJ5_append_cf1ce_1 : decode cJ5_append_cf1ce 1 = .ok (.ifnonnull 8, 3) := by decide +kernel
theorem dJ5_append_cf1ce_4 : decode cJ5_append_cf1ce 4 = .ok (.aload_n 0, 1) := by decide +kernel
theorem dJ5_append_cf1ce_5 : decode cJ5_append_cf1ce 5 = .ok (.invokevirtual 204, 3) := by decide +kernel
theorem dJ5_append_cf1ce_8 : decode cJ5_append_cf1ce 8 = .ok (.areturn, 1) := by decide +kernel
theorem dJ5_append_cf1ce_9 : decode cJ5_append_cf1ce 9 = .ok (.aload_n 1, 1) := by decide +kernel
theorem dJ5_append_cf1ce_10 : decode cJ5_append_cf1ce 10 = .ok (.invokevirtual 32, 3) := by decide +kernel
theorem dJ5_append_cf1ce_13 : decode cJ5_append_cf1ce 13 = .ok (.istore_n 2, 1) := by decide +kernel
theorem dJ5_append_cf1ce_14 : decode cJ5_append_cf1ce 14 = .ok (.aload_n 0, 1) := by decide +kernel
theorem dJ5_append_cf1ce_15 : decode cJ5_append_cf1ce 15 = .ok (.aload_n 0, 1) := by decide +kernel
theorem dJ5_append_cf1ce_16 : decode cJ5_append_cf1ce 16 = .ok (.getfield 79, 3) := by decide +kernel
theorem dJ5_append_cf1ce_19 : decode cJ5_append_cf1ce 19 = .ok (.iload_n 2, 1) := by decide +kernel
theorem dJ5_append_cf1ce_20 : decode cJ5_append_cf1ce 20 = .ok (.iadd, 1) := by decide +kernel
theorem dJ5_append_cf1ce_21 : decode cJ5_append_cf1ce 21 = .ok (.invokevirtual 100, 3) := by decide +kernel
theorem dJ5_append_cf1ce_24 : decode cJ5_append_cf1ce 24 = .ok (.aload_n 0, 1) := by decide +kernel
theorem dJ5_append_cf1ce_25 : decode cJ5_append_cf1ce 25 = .ok (.aload_n 0, 1) := by decide +kernel
theorem dJ5_append_cf1ce_26 : decode cJ5_append_cf1ce 26 = .ok (.getfield 79, 3) := by decide +kernel
theorem dJ5_append_cf1ce_29 : decode cJ5_append_cf1ce 29 = .ok (.aload_n 1, 1) := by decide +kernel
theorem dJ5_append_cf1ce_30 : decode cJ5_append_cf1ce 30 = .ok (.invokevirtual 208, 3) := by decide +kernel
theorem dJ5_append_cf1ce_33 : decode cJ5_append_cf1ce 33 = .ok (.aload_n 0, 1) := by decide +kernel
theorem dJ5_append_cf1ce_34 : decode cJ5_append_cf1ce 34 = .ok (.dup, 1) := by decide +kernel
theorem dJ5_append_cf1ce_35 : decode cJ5_append_cf1ce 35 = .ok (.getfield 79, 3) := by decide +kernel
theorem dJ5_append_cf1ce_38 : decode cJ5_append_cf1ce 38 = .ok (.iload_n 2, 1) := by decide +kernel
theorem dJ5_append_cf1ce_39 : decode cJ5_append_cf1ce 39 = .ok (.iadd, 1) := by decide +kernel
theorem dJ5_append_cf1ce_40 : decode cJ5_append_cf1ce 40 = .ok (.putfield 79, 3) := by decide +kernel
theorem dJ5_append_cf1ce_43 : decode cJ5_append_cf1ce 43 = .ok (.aload_n 0, 1) := by decide +kernel
theorem dJ5_append_cf1ce_44 : decode cJ5_append_cf1ce 44 = .ok (.areturn, 1) := by decide +kernel
theorem dJ4_append_15ec4_0 : decode cJ4_append_15ec4 0 = .ok (.aload_n 0, 1) := by decide +kernel
theorem dJ4_append_15ec4_1 : decode cJ4_append_15ec4 1 = .ok (.aload_n 1, 1) := by decide +kernel
theorem dJ4_append_15ec4_2 : decode cJ4_append_15ec4 2 = .ok (.invokespecial 29, 3) := by decide +kernel
theorem dJ4_append_15ec4_5 : decode cJ4_append_15ec4 5 = .ok (.pop, 1) := by decide +kernel
theorem dJ4_append_15ec4_6 : decode cJ4_append_15ec4 6 = .ok (.aload_n 0, 1) := by decide +kernel
theorem dJ4_append_15ec4_7 : decode cJ4_append_15ec4 7 = .ok (.areturn, 1) := by decide +kernel
theorem dJ6_stringSize_0f7a4_0 : decode cJ6_stringSize_0f7a4 0 = .ok (.iconst 1, 1) := by decide +kernel
theorem dJ6_stringSize_0f7a4_1 : decode cJ6_stringSize_0f7a4 1 = .ok (.istore_n 1, 1) := by decide +kernel
theorem dJ6_stringSize_0f7a4_2 : decode cJ6_stringSize_0f7a4 2 = .ok (.iload_n 0, 1) := by decide +kernel
theorem dJ6_stringSize_0f7a4_3 : decode cJ6_stringSize_0f7a4 3 = .ok (.ifCond .lt 8, 3) := by decide +kernel
theorem dJ6_stringSize_0f7a4_6 : decode cJ6_stringSize_0f7a4 6 = .ok (.iconst 0, 1) := by decide +kernel
theorem dJ6_stringSize_0f7a4_7 : decode cJ6_stringSize_0f7a4 7 = .ok (.istore_n 1, 1) := by decide +kernel
theorem dJ6_stringSize_0f7a4_8 : decode cJ6_stringSize_0f7a4 8 = .ok (.iload_n 0, 1) := by decide +kernel
theorem dJ6_stringSize_0f7a4_9 : decode cJ6_stringSize_0f7a4 9 = .ok (.ineg, 1) := by decide +kernel
theorem dJ6_stringSize_0f7a4_10 : decode cJ6_stringSize_0f7a4 10 = .ok (.istore_n 0, 1) := by decide +kernel
theorem dJ6_stringSize_0f7a4_11 : decode cJ6_stringSize_0f7a4 11 = .ok (.bipush (-10), 2) := by decide +kernel
theorem dJ6_stringSize_0f7a4_13 : decode cJ6_stringSize_0f7a4 13 = .ok (.istore_n 2, 1) := by decide +kernel
theorem dJ6_stringSize_0f7a4_14 : decode cJ6_stringSize_0f7a4 14 = .ok (.iconst 1, 1) := by decide +kernel
theorem dJ6_stringSize_0f7a4_15 : decode cJ6_stringSize_0f7a4 15 = .ok (.istore_n 3, 1) := by decide +kernel
theorem dJ6_stringSize_0f7a4_16 : decode cJ6_stringSize_0f7a4 16 = .ok (.iload_n 3, 1) := by decide +kernel
theorem dJ6_stringSize_0f7a4_17 : decode cJ6_stringSize_0f7a4 17 = .ok (.bipush 10, 2) := by decide +kernel
theorem dJ6_stringSize_0f7a4_19 : decode cJ6_stringSize_0f7a4 19 = .ok (.if_icmp .ge 23, 3) := by decide +kernel
theorem dJ6_stringSize_0f7a4_22 : decode cJ6_stringSize_0f7a4 22 = .ok (.iload_n 0, 1) := by decide +kernel
theorem dJ6_stringSize_0f7a4_23 : decode cJ6_stringSize_0f7a4 23 = .ok (.iload_n 2, 1) := by decide +kernel
theorem dJ6_stringSize_0f7a4_24 : decode cJ6_stringSize_0f7a4 24 = .ok (.if_icmp .le 7, 3) := by decide +kernel
theorem dJ6_stringSize_0f7a4_27 : decode cJ6_stringSize_0f7a4 27 = .ok (.iload_n 3, 1) := by decide +kernel
theorem dJ6_stringSize_0f7a4_28 : decode cJ6_stringSize_0f7a4 28 = .ok (.iload_n 1, 1) := by decide +kernel
theorem dJ6_stringSize_0f7a4_29 : decode cJ6_stringSize_0f7a4 29 = .ok (.iadd, 1) := by decide +kernel
theorem dJ6_stringSize_0f7a4_30 : decode cJ6_stringSize_0f7a4 30 = .ok (.ireturn, 1) := by decide +kernel
theorem dJ6_stringSize_0f7a4_31 : decode cJ6_stringSize_0f7a4 31 = .ok (.bipush 10, 2) := by decide +kernel
theorem dJ6_stringSize_0f7a4_33 : decode cJ6_stringSize_0f7a4 33 = .ok (.iload_n 2, 1) := by decide +kernel
theorem dJ6_stringSize_0f7a4_34 : decode cJ6_stringSize_0f7a4 34 = .ok (.imul, 1) := by decide +kernel
theorem dJ6_stringSize_0f7a4_35 : decode cJ6_stringSize_0f7a4 35 = .ok (.istore_n 2, 1) := by decide +kernel
theorem dJ6_stringSize_0f7a4_36 : decode cJ6_stringSize_0f7a4 36 = .ok (.iinc 3 1, 3) := by decide +kernel
theorem dJ6_stringSize_0f7a4_39 : decode cJ6_stringSize_0f7a4 39 = .ok (.goto (-23), 3) := by decide +kernel
theorem dJ6_stringSize_0f7a4_42 : decode cJ6_stringSize_0f7a4 42 = .ok (.bipush 10, 2) := by decide +kernel
theorem dJ6_stringSize_0f7a4_44 : decode cJ6_stringSize_0f7a4 44 = .ok (.iload_n 1, 1) := by decide +kernel
theorem dJ6_stringSize_0f7a4_45 : decode cJ6_stringSize_0f7a4 45 = .ok (.iadd, 1) := by decide +kernel
theorem dJ6_stringSize_0f7a4_46 : decode cJ6_stringSize_0f7a4 46 = .ok (.ireturn, 1) := by decide +kernel
theorem dJ6_getChars_ba4f3_0 : decode cJ6_getChars_ba4f3 0 = .ok (.iload_n 1, 1) := by decide +kernel
theorem dJ6_getChars_ba4f3_1 : decode cJ6_getChars_ba4f3 1 = .ok (.istore 5, 2) := by decide +kernel
theorem dJ6_getChars_ba4f3_3 : decode cJ6_getChars_ba4f3 3 = .ok (.iload_n 0, 1) := by decide +kernel
theorem dJ6_getChars_ba4f3_4 : decode cJ6_getChars_ba4f3 4 = .ok (.ifCond .ge 7, 3) := by decide +kernel
theorem dJ6_getChars_ba4f3_7 : decode cJ6_getChars_ba4f3 7 = .ok (.iconst 1, 1) := by decide +kernel
theorem dJ6_getChars_ba4f3_8 : decode cJ6_getChars_ba4f3 8 = .ok (.goto 4, 3) := by decide +kernel
theorem dJ6_getChars_ba4f3_11 : decode cJ6_getChars_ba4f3 11 = .ok (.iconst 0, 1) := by decide +kernel
theorem dJ6_getChars_ba4f3_12 : decode cJ6_getChars_ba4f3 12 = .ok (.istore 6, 2) := by decide +kernel
theorem dJ6_getChars_ba4f3_14 : decode cJ6_getChars_ba4f3 14 = .ok (.iload 6, 2) := by decide +kernel
theorem dJ6_getChars_ba4f3_16 : decode cJ6_getChars_ba4f3 16 = .ok (.ifCond .ne 6, 3) := by decide +kernel
theorem dJ6_getChars_ba4f3_19 : decode cJ6_getChars_ba4f3 19 = .ok (.iload_n 0, 1) := by decide +kernel
theorem dJ6_getChars_ba4f3_20 : decode cJ6_getChars_ba4f3 20 = .ok (.ineg, 1) := by decide +kernel
theorem dJ6_getChars_ba4f3_21 : decode cJ6_getChars_ba4f3 21 = .ok (.istore_n 0, 1) := by decide +kernel
theorem dJ6_getChars_ba4f3_22 : decode cJ6_getChars_ba4f3 22 = .ok (.iload_n 0, 1) := by decide +kernel
theorem dJ6_getChars_ba4f3_23 : decode cJ6_getChars_ba4f3 23 = .ok (.bipush (-100), 2) := by decide +kernel
theorem dJ6_getChars_ba4f3_25 : decode cJ6_getChars_ba4f3 25 = .ok (.if_icmp .gt 47, 3) := by decide +kernel
theorem dJ6_getChars_ba4f3_28 : decode cJ6_getChars_ba4f3 28 = .ok (.iload_n 0, 1) := by decide +kernel
theorem dJ6_getChars_ba4f3_29 : decode cJ6_getChars_ba4f3 29 = .ok (.bipush 100, 2) := by decide +kernel
theorem dJ6_getChars_ba4f3_31 : decode cJ6_getChars_ba4f3 31 = .ok (.idiv, 1) := by decide +kernel
theorem dJ6_getChars_ba4f3_32 : decode cJ6_getChars_ba4f3 32 = .ok (.istore_n 3, 1) := by decide +kernel
theorem dJ6_getChars_ba4f3_33 : decode cJ6_getChars_ba4f3 33 = .ok (.iload_n 3, 1) := by decide +kernel
theorem dJ6_getChars_ba4f3_34 : decode cJ6_getChars_ba4f3 34 = .ok (.bipush 100, 2) := by decide +kernel
theorem dJ6_getChars_ba4f3_36 : decode cJ6_getChars_ba4f3 36 = .ok (.imul, 1) := by decide +kernel
theorem dJ6_getChars_ba4f3_37 : decode cJ6_getChars_ba4f3 37 = .ok (.iload_n 0, 1) := by decide +kernel
theorem dJ6_getChars_ba4f3_38 : decode cJ6_getChars_ba4f3 38 = .ok (.isub, 1) := by decide +kernel
theorem dJ6_getChars_ba4f3_39 : decode cJ6_getChars_ba4f3 39 = .ok (.istore 4, 2) := by decide +kernel
theorem dJ6_getChars_ba4f3_41 : decode cJ6_getChars_ba4f3 41 = .ok (.iload_n 3, 1) := by decide +kernel
theorem dJ6_getChars_ba4f3_42 : decode cJ6_getChars_ba4f3 42 = .ok (.istore_n 0, 1) := by decide +kernel
theorem dJ6_getChars_ba4f3_43 : decode cJ6_getChars_ba4f3 43 = .ok (.aload_n 2, 1) := by decide +kernel
theorem dJ6_getChars_ba4f3_44 : decode cJ6_getChars_ba4f3 44 = .ok (.iinc 5 (-1), 3) := by decide +kernel
theorem dJ6_getChars_ba4f3_47 : decode cJ6_getChars_ba4f3 47 = .ok (.iload 5, 2) := by decide +kernel
theorem dJ6_getChars_ba4f3_49 : decode cJ6_getChars_ba4f3 49 = .ok (.getstatic 83, 3) := by decide +kernel
theorem dJ6_getChars_ba4f3_52 : decode cJ6_getChars_ba4f3 52 = .ok (.iload 4, 2) := by decide +kernel
theorem dJ6_getChars_ba4f3_54 : decode cJ6_getChars_ba4f3 54 = .ok (.baload, 1) := by decide +kernel
theorem dJ6_getChars_ba4f3_55 : decode cJ6_getChars_ba4f3 55 = .ok (.bastore, 1) := by decide +kernel
theorem dJ6_getChars_ba4f3_56 : decode cJ6_getChars_ba4f3 56 = .ok (.aload_n 2, 1) := by decide +kernel
theorem dJ6_getChars_ba4f3_57 : decode cJ6_getChars_ba4f3 57 = .ok (.iinc 5 (-1), 3) := by decide +kernel
theorem dJ6_getChars_ba4f3_60 : decode cJ6_getChars_ba4f3 60 = .ok (.iload 5, 2) := by decide +kernel
theorem dJ6_getChars_ba4f3_62 : decode cJ6_getChars_ba4f3 62 = .ok (.getstatic 87, 3) := by decide +kernel
theorem dJ6_getChars_ba4f3_65 : decode cJ6_getChars_ba4f3 65 = .ok (.iload 4, 2) := by decide +kernel
theorem dJ6_getChars_ba4f3_67 : decode cJ6_getChars_ba4f3 67 = .ok (.baload, 1) := by decide +kernel
theorem dJ6_getChars_ba4f3_68 : decode cJ6_getChars_ba4f3 68 = .ok (.bastore, 1) := by decide +kernel
theorem dJ6_getChars_ba4f3_69 : decode cJ6_getChars_ba4f3 69 = .ok (.goto (-47), 3) := by decide +kernel
theorem dJ6_getChars_ba4f3_72 : decode cJ6_getChars_ba4f3 72 = .ok (.aload_n 2, 1) := by decide +kernel
theorem dJ6_getChars_ba4f3_73 : decode cJ6_getChars_ba4f3 73 = .ok (.iinc 5 (-1), 3) := by decide +kernel
theorem dJ6_getChars_ba4f3_76 : decode cJ6_getChars_ba4f3 76 = .ok (.iload 5, 2) := by decide +kernel
theorem dJ6_getChars_ba4f3_78 : decode cJ6_getChars_ba4f3 78 = .ok (.getstatic 83, 3) := by decide +kernel
theorem dJ6_getChars_ba4f3_81 : decode cJ6_getChars_ba4f3 81 = .ok (.iload_n 0, 1) := by decide +kernel
theorem dJ6_getChars_ba4f3_82 : decode cJ6_getChars_ba4f3 82 = .ok (.ineg, 1) := by decide +kernel
theorem dJ6_getChars_ba4f3_83 : decode cJ6_getChars_ba4f3 83 = .ok (.baload, 1) := by decide +kernel
theorem dJ6_getChars_ba4f3_84 : decode cJ6_getChars_ba4f3 84 = .ok (.bastore, 1) := by decide +kernel
theorem dJ6_getChars_ba4f3_85 : decode cJ6_getChars_ba4f3 85 = .ok (.iload_n 0, 1) := by decide +kernel
theorem dJ6_getChars_ba4f3_86 : decode cJ6_getChars_ba4f3 86 = .ok (.bipush (-9), 2) := by decide +kernel
theorem dJ6_getChars_ba4f3_88 : decode cJ6_getChars_ba4f3 88 = .ok (.if_icmp .ge 16, 3) := by decide +kernel
theorem dJ6_getChars_ba4f3_91 : decode cJ6_getChars_ba4f3 91 = .ok (.aload_n 2, 1) := by decide +kernel
theorem dJ6_getChars_ba4f3_92 : decode cJ6_getChars_ba4f3 92 = .ok (.iinc 5 (-1), 3) := by decide +kernel
theorem dJ6_getChars_ba4f3_95 : decode cJ6_getChars_ba4f3 95 = .ok (.iload 5, 2) := by decide +kernel
theorem dJ6_getChars_ba4f3_97 : decode cJ6_getChars_ba4f3 97 = .ok (.getstatic 87, 3) := by decide +kernel
theorem dJ6_getChars_ba4f3_100 : decode cJ6_getChars_ba4f3 100 = .ok (.iload_n 0, 1) := by decide +kernel
theorem dJ6_getChars_ba4f3_101 : decode cJ6_getChars_ba4f3 101 = .ok (.ineg, 1) := by decide +kernel
theorem dJ6_getChars_ba4f3_102 : decode cJ6_getChars_ba4f3 102 = .ok (.baload, 1) := by decide +kernel
theorem dJ6_getChars_ba4f3_103 : decode cJ6_getChars_ba4f3 103 = .ok (.bastore, 1) := by decide +kernel
theorem dJ6_getChars_ba4f3_104 : decode cJ6_getChars_ba4f3 104 = .ok (.iload 6, 2) := by decide +kernel
theorem dJ6_getChars_ba4f3_106 : decode cJ6_getChars_ba4f3 106 = .ok (.ifCond .eq 12, 3) := by decide +kernel
theorem dJ6_getChars_ba4f3_109 : decode cJ6_getChars_ba4f3 109 = .ok (.aload_n 2, 1) := by decide +kernel
theorem dJ6_getChars_ba4f3_110 : decode cJ6_getChars_ba4f3 110 = .ok (.iinc 5 (-1), 3) := by decide +kernel
theorem dJ6_getChars_ba4f3_113 : decode cJ6_getChars_ba4f3 113 = .ok (.iload 5, 2) := by decide +kernel
theorem dJ6_getChars_ba4f3_115 : decode cJ6_getChars_ba4f3 115 = .ok (.bipush 45, 2) := by decide +kernel
theorem dJ6_getChars_ba4f3_117 : decode cJ6_getChars_ba4f3 117 = .ok (.bastore, 1) := by decide +kernel
theorem dJ6_getChars_ba4f3_118 : decode cJ6_getChars_ba4f3 118 = .ok (.iload 5, 2) := by decide +kernel
theorem dJ6_getChars_ba4f3_120 : decode cJ6_getChars_ba4f3 120 = .ok (.ireturn, 1) := by decide +kernel
theorem dJ5_append_c97b9_0 : decode cJ5_append_c97b9 0 = .ok (.aload_n 0, 1) := by decide +kernel
theorem dJ5_append_c97b9_1 : decode cJ5_append_c97b9 1 = .ok (.getfield 79, 3) := by decide +kernel
theorem dJ5_append_c97b9_4 : decode cJ5_append_c97b9 4 = .ok (.istore_n 2, 1) := by decide +kernel
theorem dJ5_append_c97b9_5 : decode cJ5_append_c97b9 5 = .ok (.iload_n 2, 1) := by decide +kernel
theorem dJ5_append_c97b9_6 : decode cJ5_append_c97b9 6 = .ok (.iload_n 1, 1) := by decide +kernel
theorem dJ5_append_c97b9_7 : decode cJ5_append_c97b9 7 = .ok (.invokestatic 245, 3) := by decide +kernel
theorem dJ5_append_c97b9_10 : decode cJ5_append_c97b9 10 = .ok (.iadd, 1) := by decide +kernel
theorem dJ5_append_c97b9_11 : decode cJ5_append_c97b9 11 = .ok (.istore_n 3, 1) := by decide +kernel
theorem dJ5_append_c97b9_12 : decode cJ5_append_c97b9 12 = .ok (.aload_n 0, 1) := by decide +kernel
theorem dJ5_append_c97b9_13 : decode cJ5_append_c97b9 13 = .ok (.iload_n 3, 1) := by decide +kernel
theorem dJ5_append_c97b9_14 : decode cJ5_append_c97b9 14 = .ok (.invokevirtual 100, 3) := by decide +kernel
theorem dJ5_append_c97b9_17 : decode cJ5_append_c97b9 17 = .ok (.aload_n 0, 1) := by decide +kernel
theorem dJ5_append_c97b9_18 : decode cJ5_append_c97b9 18 = .ok (.invokevirtual 83, 3) := by decide +kernel
theorem dJ5_append_c97b9_21 : decode cJ5_append_c97b9 21 = .ok (.ifCond .eq 16, 3) := by decide +kernel
theorem dJ5_append_c97b9_24 : decode cJ5_append_c97b9 24 = .ok (.iload_n 1, 1) := by decide +kernel
theorem dJ5_append_c97b9_25 : decode cJ5_append_c97b9 25 = .ok (.iload_n 3, 1) := by decide +kernel
theorem dJ5_append_c97b9_26 : decode cJ5_append_c97b9 26 = .ok (.aload_n 0, 1) := by decide +kernel
theorem dJ5_append_c97b9_27 : decode cJ5_append_c97b9 27 = .ok (.getfield 15, 3) := by decide +kernel
theorem dJ5_append_c97b9_30 : decode cJ5_append_c97b9 30 = .ok (.invokestatic 248, 3) := by decide +kernel
theorem dJ5_append_c97b9_33 : decode cJ5_append_c97b9 33 = .ok (.pop, 1) := by decide +kernel
theorem dJ5_append_c97b9_34 : decode cJ5_append_c97b9 34 = .ok (.goto 14, 3) := by decide +kernel
theorem dJ5_append_c97b9_37 : decode cJ5_append_c97b9 37 = .ok (.iload_n 1, 1) := by decide +kernel
theorem dJ5_append_c97b9_38 : decode cJ5_append_c97b9 38 = .ok (.iload_n 2, 1) := by decide +kernel
theorem dJ5_append_c97b9_39 : decode cJ5_append_c97b9 39 = .ok (.iload_n 3, 1) := by decide +kernel
theorem dJ5_append_c97b9_40 : decode cJ5_append_c97b9 40 = .ok (.aload_n 0, 1) := by decide +kernel
theorem dJ5_append_c97b9_41 : decode cJ5_append_c97b9 41 = .ok (.getfield 15, 3) := by decide +kernel
theorem dJ5_append_c97b9_44 : decode cJ5_append_c97b9 44 = .ok (.invokestatic 251, 3) := by decide +kernel
theorem dJ5_append_c97b9_47 : decode cJ5_append_c97b9 47 = .ok (.pop, 1) := by decide +kernel
theorem dJ5_append_c97b9_48 : decode cJ5_append_c97b9 48 = .ok (.aload_n 0, 1) := by decide +kernel
theorem dJ5_append_c97b9_49 : decode cJ5_append_c97b9 49 = .ok (.iload_n 3, 1) := by decide +kernel
theorem dJ5_append_c97b9_50 : decode cJ5_append_c97b9 50 = .ok (.putfield 79, 3) := by decide +kernel
theorem dJ5_append_c97b9_53 : decode cJ5_append_c97b9 53 = .ok (.aload_n 0, 1) := by decide +kernel
theorem dJ5_append_c97b9_54 : decode cJ5_append_c97b9 54 = .ok (.areturn, 1) := by decide +kernel
theorem dJ4_append_bf812_0 : decode cJ4_append_bf812 0 = .ok (.aload_n 0, 1) := by decide +kernel
theorem dJ4_append_bf812_1 : decode cJ4_append_bf812 1 = .ok (.iload_n 1, 1) := by decide +kernel
theorem dJ4_append_bf812_2 : decode cJ4_append_bf812 2 = .ok (.invokespecial 53, 3) := by decide +kernel
theorem dJ4_append_bf812_5 : decode cJ4_append_bf812 5 = .ok (.pop, 1) := by decide +kernel
theorem dJ4_append_bf812_6 : decode cJ4_append_bf812 6 = .ok (.aload_n 0, 1) := by decide +kernel
theorem dJ4_append_bf812_7 : decode cJ4_append_bf812 7 = .ok (.areturn, 1) := by decide +kernel
theorem dJ4_append_cf1ce_0 : decode cJ4_append_cf1ce 0 = .ok (.aload_n 0, 1) := by decide +kernel
theorem dJ4_append_cf1ce_1 : decode cJ4_append_cf1ce 1 = .ok (.aload_n 1, 1) := by decide +kernel
theorem dJ4_append_cf1ce_2 : decode cJ4_append_cf1ce 2 = .ok (.invokevirtual 23, 3) := by decide +kernel
theorem dJ4_append_cf1ce_5 : decode cJ4_append_cf1ce 5 = .ok (.areturn, 1) := by decide +kernel
theorem dJ5_init_a7421_0 : decode cJ5_init_a7421 0 = .ok (.aload_n 0, 1) := by decide +kernel
theorem dJ5_init_a7421_1 : decode cJ5_init_a7421 1 = .ok (.invokespecial 3, 3) := by decide +kernel
theorem dJ5_init_a7421_4 : decode cJ5_init_a7421 4 = .ok (.aload_n 1, 1) := by decide +kernel
theorem dJ5_init_a7421_5 : decode cJ5_init_a7421 5 = .ok (.invokevirtual 32, 3) := by decide +kernel
theorem dJ5_init_a7421_8 : decode cJ5_init_a7421 8 = .ok (.istore_n 2, 1) := by decide +kernel
theorem dJ5_init_a7421_9 : decode cJ5_init_a7421 9 = .ok (.iload_n 2, 1) := by decide +kernel
theorem dJ5_init_a7421_10 : decode cJ5_init_a7421 10 = .ok (.ldc 38, 2) := by decide +kernel
theorem dJ5_init_a7421_12 : decode cJ5_init_a7421 12 = .ok (.if_icmp .ge 10, 3) := by decide +kernel
theorem dJ5_init_a7421_15 : decode cJ5_init_a7421 15 = .ok (.iload_n 2, 1) := by decide +kernel
theorem dJ5_init_a7421_16 : decode cJ5_init_a7421 16 = .ok (.bipush 16, 2) := by decide +kernel
theorem dJ5_init_a7421_18 : decode cJ5_init_a7421 18 = .ok (.iadd, 1) := by decide +kernel
theorem dJ5_init_a7421_19 : decode cJ5_init_a7421 19 = .ok (.goto 5, 3) := by decide +kernel
theorem dJ5_init_a7421_22 : decode cJ5_init_a7421 22 = .ok (.ldc 39, 2) := by decide +kernel
theorem dJ5_init_a7421_24 : decode cJ5_init_a7421 24 = .ok (.istore_n 3, 1) := by decide +kernel
theorem dJ5_init_a7421_25 : decode cJ5_init_a7421 25 = .ok (.aload_n 1, 1) := by decide +kernel
theorem dJ5_init_a7421_26 : decode cJ5_init_a7421 26 = .ok (.invokevirtual 40, 3) := by decide +kernel
theorem dJ5_init_a7421_29 : decode cJ5_init_a7421 29 = .ok (.istore 4, 2) := by decide +kernel
theorem dJ5_init_a7421_31 : decode cJ5_init_a7421 31 = .ok (.aload_n 0, 1) := by decide +kernel
theorem dJ5_init_a7421_32 : decode cJ5_init_a7421 32 = .ok (.iload 4, 2) := by decide +kernel
theorem dJ5_init_a7421_34 : decode cJ5_init_a7421 34 = .ok (.putfield 22, 3) := by decide +kernel
theorem dJ5_init_a7421_37 : decode cJ5_init_a7421 37 = .ok (.aload_n 0, 1) := by decide +kernel
theorem dJ5_init_a7421_38 : decode cJ5_init_a7421 38 = .ok (.iload 4, 2) := by decide +kernel
theorem dJ5_init_a7421_40 : decode cJ5_init_a7421 40 = .ok (.ifCond .ne 9, 3) := by decide +kernel
theorem dJ5_init_a7421_43 : decode cJ5_init_a7421 43 = .ok (.iload_n 3, 1) := by decide +kernel
theorem dJ5_init_a7421_44 : decode cJ5_init_a7421 44 = .ok (.newarray .byte, 2) := by decide +kernel
theorem dJ5_init_a7421_46 : decode cJ5_init_a7421 46 = .ok (.goto 7, 3) := by decide +kernel
theorem dJ5_init_a7421_49 : decode cJ5_init_a7421 49 = .ok (.iload_n 3, 1) := by decide +kernel
theorem dJ5_init_a7421_50 : decode cJ5_init_a7421 50 = .ok (.invokestatic 26, 3) := by decide +kernel
theorem dJ5_init_a7421_53 : decode cJ5_init_a7421 53 = .ok (.putfield 15, 3) := by decide +kernel
theorem dJ5_init_a7421_56 : decode cJ5_init_a7421 56 = .ok (.aload_n 0, 1) := by decide +kernel
theorem dJ5_init_a7421_57 : decode cJ5_init_a7421 57 = .ok (.aload_n 1, 1) := by decide +kernel
theorem dJ5_init_a7421_58 : decode cJ5_init_a7421 58 = .ok (.invokevirtual 43, 3) := by decide +kernel
theorem dJ5_init_a7421_61 : decode cJ5_init_a7421 61 = .ok (.pop, 1) := by decide +kernel
theorem dJ5_init_a7421_62 : decode cJ5_init_a7421 62 = .ok (.return_, 1) := by decide +kernel
theorem dJ4_init_a7421_0 : decode cJ4_init_a7421 0 = .ok (.aload_n 0, 1) := by decide +kernel
theorem dJ4_init_a7421_1 : decode cJ4_init_a7421 1 = .ok (.aload_n 1, 1) := by decide +kernel
theorem dJ4_init_a7421_2 : decode cJ4_init_a7421 2 = .ok (.invokespecial 7, 3) := by decide +kernel
theorem dJ4_init_a7421_5 : decode cJ4_init_a7421 5 = .ok (.return_, 1) := by decide +kernel
theorem dJx4a65c_rangeCheckForAdd_d00df_0 : decode cJx4a65c_rangeCheckForAdd_d00df 0 = .ok (.iload_n 1, 1) := by decide +kernel
theorem dJx4a65c_rangeCheckForAdd_d00df_1 : decode cJx4a65c_rangeCheckForAdd_d00df 1 = .ok (.aload_n 0, 1) := by decide +kernel
theorem dJx4a65c_rangeCheckForAdd_d00df_2 : decode cJx4a65c_rangeCheckForAdd_d00df 2 = .ok (.getfield 48, 3) := by decide +kernel
theorem dJx4a65c_rangeCheckForAdd_d00df_5 : decode cJx4a65c_rangeCheckForAdd_d00df 5 = .ok (.if_icmp .gt 7, 3) := by decide +kernel
theorem dJx4a65c_rangeCheckForAdd_d00df_8 : decode cJx4a65c_rangeCheckForAdd_d00df 8 = .ok (.iload_n 1, 1) := by decide +kernel
theorem dJx4a65c_rangeCheckForAdd_d00df_9 : decode cJx4a65c_rangeCheckForAdd_d00df 9 = .ok (.ifCond .ge 16, 3) := by decide +kernel
theorem dJx4a65c_rangeCheckForAdd_d00df_12 : decode cJx4a65c_rangeCheckForAdd_d00df 12 = .ok (.new 187, 3) := by decide +kernel
theorem dJx4a65c_rangeCheckForAdd_d00df_15 : decode cJx4a65c_rangeCheckForAdd_d00df 15 = .ok (.dup, 1) := by decide +kernel
theorem dJx4a65c_rangeCheckForAdd_d00df_16 : decode cJx4a65c_rangeCheckForAdd_d00df 16 = .ok (.aload_n 0, 1) := by decide +kernel
theorem dJx4a65c_rangeCheckForAdd_d00df_17 : decode cJx4a65c_rangeCheckForAdd_d00df 17 = .ok (.iload_n 1, 1) := by decide +kernel
theorem dJx4a65c_rangeCheckForAdd_d00df_18 : decode cJx4a65c_rangeCheckForAdd_d00df 18 = .ok (.invokevirtual 198, 3) := by decide +kernel
theorem dJx4a65c_rangeCheckForAdd_d00df_21 : decode cJx4a65c_rangeCheckForAdd_d00df 21 = .ok (.invokespecial 193, 3) := by decide +kernel
theorem dJx4a65c_rangeCheckForAdd_d00df_24 : decode cJx4a65c_rangeCheckForAdd_d00df 24 = .ok (.athrow, 1) := by decide +kernel
theorem dJx4a65c_rangeCheckForAdd_d00df_25 : decode cJx4a65c_rangeCheckForAdd_d00df 25 = .ok (.return_, 1) := by decide +kernel
theorem dJx4a65c_add_7a177_0 : decode cJx4a65c_add_7a177 0 = .ok (.aload_n 0, 1) := by decide +kernel
theorem dJx4a65c_add_7a177_1 : decode cJx4a65c_add_7a177 1 = .ok (.iload_n 1, 1) := by decide +kernel
theorem dJx4a65c_add_7a177_2 : decode cJx4a65c_add_7a177 2 = .ok (.invokevirtual 135, 3) := by decide +kernel
theorem dJx4a65c_add_7a177_5 : decode cJx4a65c_add_7a177 5 = .ok (.aload_n 0, 1) := by decide +kernel
theorem dJx4a65c_add_7a177_6 : decode cJx4a65c_add_7a177 6 = .ok (.dup, 1) := by decide +kernel
theorem dJx4a65c_add_7a177_7 : decode cJx4a65c_add_7a177 7 = .ok (.getfield 63, 3) := by decide +kernel
theorem dJx4a65c_add_7a177_10 : decode cJx4a65c_add_7a177 10 = .ok (.iconst 1, 1) := by decide +kernel
theorem dJx4a65c_add_7a177_11 : decode cJx4a65c_add_7a177 11 = .ok (.iadd, 1) := by decide +kernel
theorem dJx4a65c_add_7a177_12 : decode cJx4a65c_add_7a177 12 = .ok (.putfield 63, 3) := by decide +kernel
theorem dJx4a65c_add_7a177_15 : decode cJx4a65c_add_7a177 15 = .ok (.aload_n 0, 1) := by decide +kernel
theorem dJx4a65c_add_7a177_16 : decode cJx4a65c_add_7a177 16 = .ok (.getfield 48, 3) := by decide +kernel
theorem dJx4a65c_add_7a177_19 : decode cJx4a65c_add_7a177 19 = .ok (.dup, 1) := by decide +kernel
theorem dJx4a65c_add_7a177_20 : decode cJx4a65c_add_7a177 20 = .ok (.istore_n 3, 1) := by decide +kernel
theorem dJx4a65c_add_7a177_21 : decode cJx4a65c_add_7a177 21 = .ok (.aload_n 0, 1) := by decide +kernel
theorem dJx4a65c_add_7a177_22 : decode cJx4a65c_add_7a177 22 = .ok (.getfield 9, 3) := by decide +kernel
theorem dJx4a65c_add_7a177_25 : decode cJx4a65c_add_7a177 25 = .ok (.dup, 1) := by decide +kernel
theorem dJx4a65c_add_7a177_26 : decode cJx4a65c_add_7a177 26 = .ok (.astore 4, 2) := by decide +kernel
theorem dJx4a65c_add_7a177_28 : decode cJx4a65c_add_7a177 28 = .ok (.arraylength, 1) := by decide +kernel
theorem dJx4a65c_add_7a177_29 : decode cJx4a65c_add_7a177 29 = .ok (.if_icmp .ne 9, 3) := by decide +kernel
theorem dJx4a65c_add_7a177_32 : decode cJx4a65c_add_7a177 32 = .ok (.aload_n 0, 1) := by decide +kernel
theorem dJx4a65c_add_7a177_33 : decode cJx4a65c_add_7a177 33 = .ok (.invokevirtual 129, 3) := by decide +kernel
theorem dJx4a65c_add_7a177_36 : decode cJx4a65c_add_7a177 36 = .ok (.astore 4, 2) := by decide +kernel
theorem dJx4a65c_add_7a177_38 : decode cJx4a65c_add_7a177 38 = .ok (.aload 4, 2) := by decide +kernel
theorem dJx4a65c_add_7a177_40 : decode cJx4a65c_add_7a177 40 = .ok (.iload_n 1, 1) := by decide +kernel
theorem dJx4a65c_add_7a177_41 : decode cJx4a65c_add_7a177 41 = .ok (.aload 4, 2) := by decide +kernel
theorem dJx4a65c_add_7a177_43 : decode cJx4a65c_add_7a177 43 = .ok (.iload_n 1, 1) := by decide +kernel
theorem dJx4a65c_add_7a177_44 : decode cJx4a65c_add_7a177 44 = .ok (.iconst 1, 1) := by decide +kernel
theorem dJx4a65c_add_7a177_45 : decode cJx4a65c_add_7a177 45 = .ok (.iadd, 1) := by decide +kernel
theorem dJx4a65c_add_7a177_46 : decode cJx4a65c_add_7a177 46 = .ok (.iload_n 3, 1) := by decide +kernel
theorem dJx4a65c_add_7a177_47 : decode cJx4a65c_add_7a177 47 = .ok (.iload_n 1, 1) := by decide +kernel
theorem dJx4a65c_add_7a177_48 : decode cJx4a65c_add_7a177 48 = .ok (.isub, 1) := by decide +kernel
theorem dJx4a65c_add_7a177_49 : decode cJx4a65c_add_7a177 49 = .ok (.invokestatic 112, 3) := by decide +kernel
theorem dJx4a65c_add_7a177_52 : decode cJx4a65c_add_7a177 52 = .ok (.aload 4, 2) := by decide +kernel
theorem dJx4a65c_add_7a177_54 : decode cJx4a65c_add_7a177 54 = .ok (.iload_n 1, 1) := by decide +kernel
theorem dJx4a65c_add_7a177_55 : decode cJx4a65c_add_7a177 55 = .ok (.aload_n 2, 1) := by decide +kernel
theorem dJx4a65c_add_7a177_56 : decode cJx4a65c_add_7a177 56 = .ok (.aastore, 1) := by decide +kernel
theorem dJx4a65c_add_7a177_57 : decode cJx4a65c_add_7a177 57 = .ok (.aload_n 0, 1) := by decide +kernel
theorem dJx4a65c_add_7a177_58 : decode cJx4a65c_add_7a177 58 = .ok (.iload_n 3, 1) := by decide +kernel
theorem dJx4a65c_add_7a177_59 : decode cJx4a65c_add_7a177 59 = .ok (.iconst 1, 1) := by decide +kernel
theorem dJx4a65c_add_7a177_60 : decode cJx4a65c_add_7a177 60 = .ok (.iadd, 1) := by decide +kernel
theorem dJx4a65c_add_7a177_61 : decode cJx4a65c_add_7a177 61 = .ok (.putfield 48, 3) := by decide +kernel
theorem dJx4a65c_add_7a177_64 : decode cJx4a65c_add_7a177 64 = .ok (.return_, 1) := by decide +kernel
theorem dJx4a65c_fastRemove_b59b0_0 : decode cJx4a65c_fastRemove_b59b0 0 = .ok (.aload_n 0, 1) := by decide +kernel
theorem dJx4a65c_fastRemove_b59b0_1 : decode cJx4a65c_fastRemove_b59b0 1 = .ok (.dup, 1) := by decide +kernel
theorem dJx4a65c_fastRemove_b59b0_2 : decode cJx4a65c_fastRemove_b59b0 2 = .ok (.getfield 63, 3) := by decide +kernel
theorem dJx4a65c_fastRemove_b59b0_5 : decode cJx4a65c_fastRemove_b59b0 5 = .ok (.iconst 1, 1) := by decide +kernel
theorem dJx4a65c_fastRemove_b59b0_6 : decode cJx4a65c_fastRemove_b59b0 6 = .ok (.iadd, 1) := by decide +kernel
theorem dJx4a65c_fastRemove_b59b0_7 : decode cJx4a65c_fastRemove_b59b0 7 = .ok (.putfield 63, 3) := by decide +kernel
theorem dJx4a65c_fastRemove_b59b0_10 : decode cJx4a65c_fastRemove_b59b0 10 = .ok (.aload_n 0, 1) := by decide +kernel
theorem dJx4a65c_fastRemove_b59b0_11 : decode cJx4a65c_fastRemove_b59b0 11 = .ok (.getfield 48, 3) := by decide +kernel
theorem dJx4a65c_fastRemove_b59b0_14 : decode cJx4a65c_fastRemove_b59b0 14 = .ok (.iconst 1, 1) := by decide +kernel
theorem dJx4a65c_fastRemove_b59b0_15 : decode cJx4a65c_fastRemove_b59b0 15 = .ok (.isub, 1) := by decide +kernel
theorem dJx4a65c_fastRemove_b59b0_16 : decode cJx4a65c_fastRemove_b59b0 16 = .ok (.dup, 1) := by decide +kernel
theorem dJx4a65c_fastRemove_b59b0_17 : decode cJx4a65c_fastRemove_b59b0 17 = .ok (.istore_n 3, 1) := by decide +kernel
theorem dJx4a65c_fastRemove_b59b0_18 : decode cJx4a65c_fastRemove_b59b0 18 = .ok (.iload_n 2, 1) := by decide +kernel
theorem dJx4a65c_fastRemove_b59b0_19 : decode cJx4a65c_fastRemove_b59b0 19 = .ok (.if_icmp .le 15, 3) := by decide +kernel
theorem dJx4a65c_fastRemove_b59b0_22 : decode cJx4a65c_fastRemove_b59b0 22 = .ok (.aload_n 1, 1) := by decide +kernel
theorem dJx4a65c_fastRemove_b59b0_23 : decode cJx4a65c_fastRemove_b59b0 23 = .ok (.iload_n 2, 1) := by decide +kernel
theorem dJx4a65c_fastRemove_b59b0_24 : decode cJx4a65c_fastRemove_b59b0 24 = .ok (.iconst 1, 1) := by decide +kernel
theorem dJx4a65c_fastRemove_b59b0_25 : decode cJx4a65c_fastRemove_b59b0 25 = .ok (.iadd, 1) := by decide +kernel
theorem dJx4a65c_fastRemove_b59b0_26 : decode cJx4a65c_fastRemove_b59b0 26 = .ok (.aload_n 1, 1) := by decide +kernel
theorem dJx4a65c_fastRemove_b59b0_27 : decode cJx4a65c_fastRemove_b59b0 27 = .ok (.iload_n 2, 1) := by decide +kernel
theorem dJx4a65c_fastRemove_b59b0_28 : decode cJx4a65c_fastRemove_b59b0 28 = .ok (.iload_n 3, 1) := by decide +kernel
theorem dJx4a65c_fastRemove_b59b0_29 : decode cJx4a65c_fastRemove_b59b0 29 = .ok (.iload_n 2, 1) := by decide +kernel
theorem dJx4a65c_fastRemove_b59b0_30 : decode cJx4a65c_fastRemove_b59b0 30 = .ok (.isub, 1) := by decide +kernel
theorem dJx4a65c_fastRemove_b59b0_31 : decode cJx4a65c_fastRemove_b59b0 31 = .ok (.invokestatic 112, 3) := by decide +kernel
theorem dJx4a65c_fastRemove_b59b0_34 : decode cJx4a65c_fastRemove_b59b0 34 = .ok (.aload_n 1, 1) := by decide +kernel
theorem dJx4a65c_fastRemove_b59b0_35 : decode cJx4a65c_fastRemove_b59b0 35 = .ok (.aload_n 0, 1) := by decide +kernel
theorem dJx4a65c_fastRemove_b59b0_36 : decode cJx4a65c_fastRemove_b59b0 36 = .ok (.iload_n 3, 1) := by decide +kernel
theorem dJx4a65c_fastRemove_b59b0_37 : decode cJx4a65c_fastRemove_b59b0 37 = .ok (.dup_x1, 1) := by decide +kernel
theorem dJx4a65c_fastRemove_b59b0_38 : decode cJx4a65c_fastRemove_b59b0 38 = .ok (.putfield 48, 3) := by decide +kernel
theorem dJx4a65c_fastRemove_b59b0_41 : decode cJx4a65c_fastRemove_b59b0 41 = .ok (.aconst_null, 1) := by decide +kernel
theorem dJx4a65c_fastRemove_b59b0_42 : decode cJx4a65c_fastRemove_b59b0 42 = .ok (.aastore, 1) := by decide +kernel
theorem dJx4a65c_fastRemove_b59b0_43 : decode cJx4a65c_fastRemove_b59b0 43 = .ok (.return_, 1) := by decide +kernel
theorem dJx4a65c_remove_915e3_0 : decode cJx4a65c_remove_915e3 0 = .ok (.iload_n 1, 1) := by decide +kernel
theorem dJx4a65c_remove_915e3_1 : decode cJx4a65c_remove_915e3 1 = .ok (.aload_n 0, 1) := by decide +kernel
theorem dJx4a65c_remove_915e3_2 : decode cJx4a65c_remove_915e3 2 = .ok (.getfield 48, 3) := by decide +kernel
theorem dJx4a65c_remove_915e3_5 : decode cJx4a65c_remove_915e3 5 = .ok (.invokestatic 118, 3) := by decide +kernel
theorem dJx4a65c_remove_915e3_8 : decode cJx4a65c_remove_915e3 8 = .ok (.pop, 1) := by decide +kernel
theorem dJx4a65c_remove_915e3_9 : decode cJx4a65c_remove_915e3 9 = .ok (.aload_n 0, 1) := by decide +kernel
theorem dJx4a65c_remove_915e3_10 : decode cJx4a65c_remove_915e3 10 = .ok (.getfield 9, 3) := by decide +kernel
theorem dJx4a65c_remove_915e3_13 : decode cJx4a65c_remove_915e3 13 = .ok (.astore_n 2, 1) := by decide +kernel
theorem dJx4a65c_remove_915e3_14 : decode cJx4a65c_remove_915e3 14 = .ok (.aload_n 2, 1) := by decide +kernel
theorem dJx4a65c_remove_915e3_15 : decode cJx4a65c_remove_915e3 15 = .ok (.iload_n 1, 1) := by decide +kernel
theorem dJx4a65c_remove_915e3_16 : decode cJx4a65c_remove_915e3 16 = .ok (.aaload, 1) := by decide +kernel
theorem dJx4a65c_remove_915e3_17 : decode cJx4a65c_remove_915e3 17 = .ok (.astore_n 3, 1) := by decide +kernel
theorem dJx4a65c_remove_915e3_18 : decode cJx4a65c_remove_915e3 18 = .ok (.aload_n 0, 1) := by decide +kernel
theorem dJx4a65c_remove_915e3_19 : decode cJx4a65c_remove_915e3 19 = .ok (.aload_n 2, 1) := by decide +kernel
theorem dJx4a65c_remove_915e3_20 : decode cJx4a65c_remove_915e3 20 = .ok (.iload_n 1, 1) := by decide +kernel
theorem dJx4a65c_remove_915e3_21 : decode cJx4a65c_remove_915e3 21 = .ok (.invokevirtual 144, 3) := by decide +kernel
theorem dJx4a65c_remove_915e3_24 : decode cJx4a65c_remove_915e3 24 = .ok (.aload_n 3, 1) := by decide +kernel
theorem dJx4a65c_remove_915e3_25 : decode cJx4a65c_remove_915e3 25 = .ok (.areturn, 1) := by decide +kernel
