theorem d_Mo_files_25 : decode prog_14_method_51_code 25 = .ok (.iconst 0, 1) := by decide +kernel
theorem d_Mo_files_26 : decode prog_14_method_51_code 26 = .ok (.iaload, 1) := by decide +kernel
theorem d_Mo_files_27 : decode prog_14_method_51_code 27 = .ok (.if_icmp .ge 26, 3) := by decide +kernel
theorem d_Mo_files_30 : decode prog_14_method_51_code 30 = .ok (.iload_n 2, 1) := by decide +kernel
theorem d_Mo_files_31 : decode prog_14_method_51_code 31 = .ok (.aload_n 0, 1) := by decide +kernel
theorem d_Mo_files_32 : decode prog_14_method_51_code 32 = .ok (.iload_n 3, 1) := by decide +kernel
theorem d_Mo_files_33 : decode prog_14_method_51_code 33 = .ok (.invokevirtual 231, 3) := by decide +kernel
theorem d_Mo_files_36 : decode prog_14_method_51_code 36 = .ok (.iload_n 1, 1) := by decide +kernel
theorem d_Mo_files_37 : decode prog_14_method_51_code 37 = .ok (.if_icmp .ne 7, 3) := by decide +kernel
theorem d_Mo_files_40 : decode prog_14_method_51_code 40 = .ok (.iconst 1, 1) := by decide +kernel
theorem d_Mo_files_41 : decode prog_14_method_51_code 41 = .ok (.goto 4, 3) := by decide +kernel
theorem d_Mo_files_44 : decode prog_14_method_51_code 44 = .ok (.iconst 0, 1) := by decide +kernel
theorem d_Mo_files_45 : decode prog_14_method_51_code 45 = .ok (.iadd, 1) := by decide +kernel
theorem d_Mo_files_46 : decode prog_14_method_51_code 46 = .ok (.istore_n 2, 1) := by decide +kernel
theorem d_Mo_files_47 : decode prog_14_method_51_code 47 = .ok (.iinc 3 1, 3) := by decide +kernel
theorem d_Mo_files_50 : decode prog_14_method_51_code 50 = .ok (.goto (-30), 3) := by decide +kernel
theorem d_Mo_files_53 : decode prog_14_method_51_code 53 = .ok (.iload_n 2, 1) := by decide +kernel
theorem d_Mo_files_54 : decode prog_14_method_51_code 54 = .ok (.ireturn, 1) := by decide +kernel
theorem d_Mo_fetch_0 : decode prog_14_method_52_code 0 = .ok (.iload_n 2, 1) := by decide +kernel
theorem d_Mo_fetch_1 : decode prog_14_method_52_code 1 = .ok (.istore_n 3, 1) := by decide +kernel
theorem d_Mo_fetch_2 : decode prog_14_method_52_code 2 = .ok (.iconst 0, 1) := by decide +kernel
theorem d_Mo_fetch_3 : decode prog_14_method_52_code 3 = .ok (.istore 4, 2) := by decide +kernel
theorem d_Mo_fetch_5 : decode prog_14_method_52_code 5 = .ok (.aload_n 0, 1) := by decide +kernel
theorem d_Mo_fetch_6 : decode prog_14_method_52_code 6 = .ok (.iload 4, 2) := by decide +kernel
theorem d_Mo_fetch_8 : decode prog_14_method_52_code 8 = .ok (.invokevirtual 231, 3) := by decide +kernel
theorem d_Mo_fetch_11 : decode prog_14_method_52_code 11 = .ok (.iload_n 1, 1) := by decide +kernel
theorem d_Mo_fetch_12 : decode prog_14_method_52_code 12 = .ok (.if_icmp .ne 13, 3) := by decide +kernel
theorem d_Mo_fetch_15 : decode prog_14_method_52_code 15 = .ok (.iload_n 3, 1) := by decide +kernel
theorem d_Mo_fetch_16 : decode prog_14_method_52_code 16 = .ok (.aload_n 0, 1) := by decide +kernel
theorem d_Mo_fetch_17 : decode prog_14_method_52_code 17 = .ok (.iload 4, 2) := by decide +kernel
theorem d_Mo_fetch_19 : decode prog_14_method_52_code 19 = .ok (.invokevirtual 237, 3) := by decide +kernel
theorem d_Mo_fetch_22 : decode prog_14_method_52_code 22 = .ok (.if_icmp .lt 32, 3) := by decide +kernel
theorem d_Mo_fetch_25 : decode prog_14_method_52_code 25 = .ok (.iload_n 3, 1) := by decide +kernel
theorem d_Mo_fetch_26 : decode prog_14_method_52_code 26 = .ok (.aload_n 0, 1) := by decide +kernel
theorem d_Mo_fetch_27 : decode prog_14_method_52_code 27 = .ok (.iload 4, 2) := by decide +kernel
theorem d_Mo_fetch_29 : decode prog_14_method_52_code 29 = .ok (.invokevirtual 231, 3) := by decide +kernel
theorem d_Mo_fetch_32 : decode prog_14_method_52_code 32 = .ok (.iload_n 1, 1) := by decide +kernel
theorem d_Mo_fetch_33 : decode prog_14_method_52_code 33 = .ok (.if_icmp .ne 12, 3) := by decide +kernel
theorem d_Mo_fetch_36 : decode prog_14_method_52_code 36 = .ok (.aload_n 0, 1) := by decide +kernel
theorem d_Mo_fetch_37 : decode prog_14_method_52_code 37 = .ok (.iload 4, 2) := by decide +kernel
theorem d_Mo_fetch_39 : decode prog_14_method_52_code 39 = .ok (.invokevirtual 237, 3) := by decide +kernel
theorem d_Mo_fetch_42 : decode prog_14_method_52_code 42 = .ok (.goto 4, 3) := by decide +kernel
theorem d_Mo_fetch_45 : decode prog_14_method_52_code 45 = .ok (.iconst 0, 1) := by decide +kernel
theorem d_Mo_fetch_46 : decode prog_14_method_52_code 46 = .ok (.isub, 1) := by decide +kernel
theorem d_Mo_fetch_47 : decode prog_14_method_52_code 47 = .ok (.istore_n 3, 1) := by decide +kernel
theorem d_Mo_fetch_48 : decode prog_14_method_52_code 48 = .ok (.iinc 4 1, 3) := by decide +kernel
theorem d_Mo_fetch_51 : decode prog_14_method_52_code 51 = .ok (.goto (-46), 3) := by decide +kernel
theorem d_Mo_fetch_54 : decode prog_14_method_52_code 54 = .ok (.aload_n 0, 1) := by decide +kernel
theorem d_Mo_fetch_55 : decode prog_14_method_52_code 55 = .ok (.aload_n 0, 1) := by decide +kernel
theorem d_Mo_fetch_56 : decode prog_14_method_52_code 56 = .ok (.iload 4, 2) := by decide +kernel
theorem d_Mo_fetch_58 : decode prog_14_method_52_code 58 = .ok (.invokevirtual 186, 3) := by decide +kernel
theorem d_Mo_fetch_61 : decode prog_14_method_52_code 61 = .ok (.iconst 5, 1) := by decide +kernel
theorem d_Mo_fetch_62 : decode prog_14_method_52_code 62 = .ok (.iadd, 1) := by decide +kernel
theorem d_Mo_fetch_63 : decode prog_14_method_52_code 63 = .ok (.putfield 148, 3) := by decide +kernel
theorem d_Mo_fetch_66 : decode prog_14_method_52_code 66 = .ok (.aload_n 0, 1) := by decide +kernel
theorem d_Mo_fetch_67 : decode prog_14_method_52_code 67 = .ok (.iload 4, 2) := by decide +kernel
theorem d_Mo_fetch_69 : decode prog_14_method_52_code 69 = .ok (.invokevirtual 234, 3) := by decide +kernel
theorem d_Mo_fetch_72 : decode prog_14_method_52_code 72 = .ok (.istore 5, 2) := by decide +kernel
theorem d_Mo_fetch_74 : decode prog_14_method_52_code 74 = .ok (.aload_n 0, 1) := by decide +kernel
theorem d_Mo_fetch_75 : decode prog_14_method_52_code 75 = .ok (.iload 5, 2) := by decide +kernel
theorem d_Mo_fetch_77 : decode prog_14_method_52_code 77 = .ok (.invokevirtual 249, 3) := by decide +kernel
theorem d_Mo_fetch_80 : decode prog_14_method_52_code 80 = .ok (.istore 6, 2) := by decide +kernel
theorem d_Mo_fetch_82 : decode prog_14_method_52_code 82 = .ok (.iconst 0, 1) := by decide +kernel
theorem d_Mo_fetch_83 : decode prog_14_method_52_code 83 = .ok (.istore 7, 2) := by decide +kernel
theorem d_Mo_fetch_85 : decode prog_14_method_52_code 85 = .ok (.iload 7, 2) := by decide +kernel
theorem d_Mo_fetch_87 : decode prog_14_method_52_code 87 = .ok (.iload_n 3, 1) := by decide +kernel
theorem d_Mo_fetch_88 : decode prog_14_method_52_code 88 = .ok (.if_icmp .ge 17, 3) := by decide +kernel
theorem d_Mo_fetch_91 : decode prog_14_method_52_code 91 = .ok (.aload_n 0, 1) := by decide +kernel
theorem d_Mo_fetch_92 : decode prog_14_method_52_code 92 = .ok (.iload 5, 2) := by decide +kernel
theorem d_Mo_fetch_94 : decode prog_14_method_52_code 94 = .ok (.invokevirtual 249, 3) := by decide +kernel
theorem d_Mo_fetch_97 : decode prog_14_method_52_code 97 = .ok (.istore 6, 2) := by decide +kernel
theorem d_Mo_fetch_99 : decode prog_14_method_52_code 99 = .ok (.iinc 7 1, 3) := by decide +kernel
theorem d_Mo_fetch_102 : decode prog_14_method_52_code 102 = .ok (.goto (-17), 3) := by decide +kernel
theorem d_Mo_fetch_105 : decode prog_14_method_52_code 105 = .ok (.iload 5, 2) := by decide +kernel
theorem d_Mo_fetch_107 : decode prog_14_method_52_code 107 = .ok (.ireturn, 1) := by decide +kernel
theorem d_Mo_add_0 : decode prog_14_method_54_code 0 = .ok (.aload_n 0, 1) := by decide +kernel
theorem d_Mo_add_1 : decode prog_14_method_54_code 1 = .ok (.getfield 72, 3) := by decide +kernel
theorem d_Mo_add_4 : decode prog_14_method_54_code 4 = .ok (.iconst 3, 1) := by decide +kernel
theorem d_Mo_add_5 : decode prog_14_method_54_code 5 = .ok (.aload_n 0, 1) := by decide +kernel
theorem d_Mo_add_6 : decode prog_14_method_54_code 6 = .ok (.getfield 258, 3) := by decide +kernel
theorem d_Mo_add_9 : decode prog_14_method_54_code 9 = .ok (.imul, 1) := by decide +kernel
theorem d_Mo_add_10 : decode prog_14_method_54_code 10 = .ok (.iload_n 1, 1) := by decide +kernel
theorem d_Mo_add_11 : decode prog_14_method_54_code 11 = .ok (.iastore, 1) := by decide +kernel
theorem d_Mo_add_12 : decode prog_14_method_54_code 12 = .ok (.aload_n 0, 1) := by decide +kernel
theorem d_Mo_add_13 : decode prog_14_method_54_code 13 = .ok (.getfield 72, 3) := by decide +kernel
theorem d_Mo_add_16 : decode prog_14_method_54_code 16 = .ok (.iconst 3, 1) := by decide +kernel
theorem d_Mo_add_17 : decode prog_14_method_54_code 17 = .ok (.aload_n 0, 1) := by decide +kernel
theorem d_Mo_add_18 : decode prog_14_method_54_code 18 = .ok (.getfield 258, 3) := by decide +kernel
theorem d_Mo_add_21 : decode prog_14_method_54_code 21 = .ok (.imul, 1) := by decide +kernel
theorem d_Mo_add_22 : decode prog_14_method_54_code 22 = .ok (.iconst 1, 1) := by decide +kernel
theorem d_Mo_add_23 : decode prog_14_method_54_code 23 = .ok (.iadd, 1) := by decide +kernel
theorem d_Mo_add_24 : decode prog_14_method_54_code 24 = .ok (.iload_n 2, 1) := by decide +kernel
theorem d_Mo_add_25 : decode prog_14_method_54_code 25 = .ok (.iastore, 1) := by decide +kernel
theorem d_Mo_add_26 : decode prog_14_method_54_code 26 = .ok (.aload_n 0, 1) := by decide +kernel
theorem d_Mo_add_27 : decode prog_14_method_54_code 27 = .ok (.getfield 72, 3) := by decide +kernel
theorem d_Mo_add_30 : decode prog_14_method_54_code 30 = .ok (.iconst 3, 1) := by decide +kernel
theorem d_Mo_add_31 : decode prog_14_method_54_code 31 = .ok (.aload_n 0, 1) := by decide +kernel
theorem d_Mo_add_32 : decode prog_14_method_54_code 32 = .ok (.getfield 258, 3) := by decide +kernel
theorem d_Mo_add_35 : decode prog_14_method_54_code 35 = .ok (.imul, 1) := by decide +kernel
theorem d_Mo_add_36 : decode prog_14_method_54_code 36 = .ok (.iconst 2, 1) := by decide +kernel
theorem d_Mo_add_37 : decode prog_14_method_54_code 37 = .ok (.iadd, 1) := by decide +kernel
theorem d_Mo_add_38 : decode prog_14_method_54_code 38 = .ok (.iload_n 3, 1) := by decide +kernel
theorem d_Mo_add_39 : decode prog_14_method_54_code 39 = .ok (.iastore, 1) := by decide +kernel
theorem d_Mo_add_40 : decode prog_14_method_54_code 40 = .ok (.aload_n 0, 1) := by decide +kernel
theorem d_Mo_add_41 : decode prog_14_method_54_code 41 = .ok (.dup, 1) := by decide +kernel
theorem d_Mo_add_42 : decode prog_14_method_54_code 42 = .ok (.getfield 258, 3) := by decide +kernel
theorem d_Mo_add_45 : decode prog_14_method_54_code 45 = .ok (.iconst 1, 1) := by decide +kernel
theorem d_Mo_add_46 : decode prog_14_method_54_code 46 = .ok (.iadd, 1) := by decide +kernel
theorem d_Mo_add_47 : decode prog_14_method_54_code 47 = .ok (.putfield 258, 3) := by decide +kernel
theorem d_Mo_add_50 : decode prog_14_method_54_code 50 = .ok (.return_, 1) := by decide +kernel
theorem d_Mo_give1_0 : decode prog_14_method_55_code 0 = .ok (.aload_n 0, 1) := by decide +kernel
theorem d_Mo_give1_1 : decode prog_14_method_55_code 1 = .ok (.getfield 261, 3) := by decide +kernel
theorem d_Mo_give1_4 : decode prog_14_method_55_code 4 = .ok (.bipush 40, 2) := by decide +kernel
theorem d_Mo_give1_6 : decode prog_14_method_55_code 6 = .ok (.if_icmp .ge 13, 3) := by decide +kernel
theorem d_Mo_give1_9 : decode prog_14_method_55_code 9 = .ok (.aload_n 0, 1) := by decide +kernel
theorem d_Mo_give1_10 : decode prog_14_method_55_code 10 = .ok (.getfield 57, 3) := by decide +kernel
theorem d_Mo_give1_13 : decode prog_14_method_55_code 13 = .ok (.aload_n 0, 1) := by decide +kernel
theorem d_Mo_give1_14 : decode prog_14_method_55_code 14 = .ok (.getfield 261, 3) := by decide +kernel
theorem d_Mo_give1_17 : decode prog_14_method_55_code 17 = .ok (.lload_n 1, 1) := by decide +kernel
theorem d_Mo_give1_18 : decode prog_14_method_55_code 18 = .ok (.lastore, 1) := by decide +kernel
theorem d_Mo_give1_19 : decode prog_14_method_55_code 19 = .ok (.aload_n 0, 1) := by decide +kernel
theorem d_Mo_give1_20 : decode prog_14_method_55_code 20 = .ok (.dup, 1) := by decide +kernel
theorem d_Mo_give1_21 : decode prog_14_method_55_code 21 = .ok (.getfield 261, 3) := by decide +kernel
theorem d_Mo_give1_24 : decode prog_14_method_55_code 24 = .ok (.iconst 1, 1) := by decide +kernel
theorem d_Mo_give1_25 : decode prog_14_method_55_code 25 = .ok (.iadd, 1) := by decide +kernel
theorem d_Mo_give1_26 : decode prog_14_method_55_code 26 = .ok (.putfield 261, 3) := by decide +kernel
theorem d_Mo_give1_29 : decode prog_14_method_55_code 29 = .ok (.return_, 1) := by decide +kernel
theorem d_Mo_defaults_0 : decode prog_14_method_57_code 0 = .ok (.aload_n 0, 1) := by decide +kernel
theorem d_Mo_defaults_1 : decode prog_14_method_57_code 1 = .ok (.getfield 31, 3) := by decide +kernel
theorem d_Mo_defaults_4 : decode prog_14_method_57_code 4 = .ok (.iload_n 1, 1) := by decide +kernel
theorem d_Mo_defaults_5 : decode prog_14_method_57_code 5 = .ok (.iaload, 1) := by decide +kernel
theorem d_Mo_defaults_6 : decode prog_14_method_57_code 6 = .ok (.istore_n 2, 1) := by decide +kernel
theorem d_Mo_defaults_7 : decode prog_14_method_57_code 7 = .ok (.aload_n 0, 1) := by decide +kernel
theorem d_Mo_defaults_8 : decode prog_14_method_57_code 8 = .ok (.getfield 7, 3) := by decide +kernel
theorem d_Mo_defaults_11 : decode prog_14_method_57_code 11 = .ok (.iload_n 2, 1) := by decide +kernel
theorem d_Mo_defaults_12 : decode prog_14_method_57_code 12 = .ok (.iaload, 1) := by decide +kernel
theorem d_Mo_defaults_13 : decode prog_14_method_57_code 13 = .ok (.bipush 6, 2) := by decide +kernel
theorem d_Mo_defaults_15 : decode prog_14_method_57_code 15 = .ok (.if_icmp .ne 15, 3) := by decide +kernel
theorem d_Mo_defaults_18 : decode prog_14_method_57_code 18 = .ok (.aload_n 0, 1) := by decide +kernel
theorem d_Mo_defaults_19 : decode prog_14_method_57_code 19 = .ok (.lconst 0, 1) := by decide +kernel
theorem d_Mo_defaults_20 : decode prog_14_method_57_code 20 = .ok (.invokevirtual 273, 3) := by decide +kernel
theorem d_Mo_defaults_23 : decode prog_14_method_57_code 23 = .ok (.aload_n 0, 1) := by decide +kernel
theorem d_Mo_defaults_24 : decode prog_14_method_57_code 24 = .ok (.getfield 16, 3) := by decide +kernel
theorem d_Mo_defaults_27 : decode prog_14_method_57_code 27 = .ok (.iload_n 2, 1) := by decide +kernel
theorem d_Mo_defaults_28 : decode prog_14_method_57_code 28 = .ok (.iaload, 1) := by decide +kernel
theorem d_Mo_defaults_29 : decode prog_14_method_57_code 29 = .ok (.istore_n 2, 1) := by decide +kernel
theorem d_Mo_defaults_30 : decode prog_14_method_57_code 30 = .ok (.aload_n 0, 1) := by decide +kernel
theorem d_Mo_defaults_31 : decode prog_14_method_57_code 31 = .ok (.getfield 7, 3) := by decide +kernel
theorem d_Mo_defaults_34 : decode prog_14_method_57_code 34 = .ok (.iload_n 2, 1) := by decide +kernel
theorem d_Mo_defaults_35 : decode prog_14_method_57_code 35 = .ok (.iaload, 1) := by decide +kernel
theorem d_Mo_defaults_36 : decode prog_14_method_57_code 36 = .ok (.ifCond .eq 13, 3) := by decide +kernel
theorem d_Mo_defaults_39 : decode prog_14_method_57_code 39 = .ok (.aload_n 0, 1) := by decide +kernel
theorem d_Mo_defaults_40 : decode prog_14_method_57_code 40 = .ok (.aload_n 0, 1) := by decide +kernel
theorem d_Mo_defaults_41 : decode prog_14_method_57_code 41 = .ok (.getfield 38, 3) := by decide +kernel
theorem d_Mo_defaults_44 : decode prog_14_method_57_code 44 = .ok (.iload_n 1, 1) := by decide +kernel
theorem d_Mo_defaults_45 : decode prog_14_method_57_code 45 = .ok (.laload, 1) := by decide +kernel
theorem d_Mo_defaults_46 : decode prog_14_method_57_code 46 = .ok (.invokevirtual 273, 3) := by decide +kernel
theorem d_Mo_defaults_49 : decode prog_14_method_57_code 49 = .ok (.return_, 1) := by decide +kernel
theorem d_Mo_items_0 : decode prog_14_method_60_code 0 = .ok (.aload_n 0, 1) := by decide +kernel
theorem d_Mo_items_1 : decode prog_14_method_60_code 1 = .ok (.getfield 66, 3) := by decide +kernel
theorem d_Mo_items_4 : decode prog_14_method_60_code 4 = .ok (.iload_n 2, 1) := by decide +kernel
theorem d_Mo_items_5 : decode prog_14_method_60_code 5 = .ok (.laload, 1) := by decide +kernel
theorem d_Mo_items_6 : decode prog_14_method_60_code 6 = .ok (.l2i, 1) := by decide +kernel
theorem d_Mo_items_7 : decode prog_14_method_60_code 7 = .ok (.istore 4, 2) := by decide +kernel
theorem d_Mo_items_9 : decode prog_14_method_60_code 9 = .ok (.iload 4, 2) := by decide +kernel
theorem d_Mo_items_11 : decode prog_14_method_60_code 11 = .ok (.iconst 1, 1) := by decide +kernel
theorem d_Mo_items_12 : decode prog_14_method_60_code 12 = .ok (.isub, 1) := by decide +kernel
theorem d_Mo_items_13 : decode prog_14_method_60_code 13 = .ok (.istore 5, 2) := by decide +kernel
theorem d_Mo_items_15 : decode prog_14_method_60_code 15 = .ok (.iload 5, 2) := by decide +kernel
theorem d_Mo_items_17 : decode prog_14_method_60_code 17 = .ok (.ifCond .lt 67, 3) := by decide +kernel
theorem d_Mo_items_20 : decode prog_14_method_60_code 20 = .ok (.iload_n 2, 1) := by decide +kernel
theorem d_Mo_items_21 : decode prog_14_method_60_code 21 = .ok (.iconst 1, 1) := by decide +kernel
theorem d_Mo_items_22 : decode prog_14_method_60_code 22 = .ok (.iadd, 1) := by decide +kernel
theorem d_Mo_items_23 : decode prog_14_method_60_code 23 = .ok (.istore 6, 2) := by decide +kernel
theorem d_Mo_items_25 : decode prog_14_method_60_code 25 = .ok (.iconst 0, 1) := by decide +kernel
theorem d_Mo_items_26 : decode prog_14_method_60_code 26 = .ok (.istore 7, 2) := by decide +kernel
theorem d_Mo_items_28 : decode prog_14_method_60_code 28 = .ok (.iload 7, 2) := by decide +kernel
theorem d_Mo_items_30 : decode prog_14_method_60_code 30 = .ok (.iload 5, 2) := by decide +kernel
theorem d_Mo_items_32 : decode prog_14_method_60_code 32 = .ok (.if_icmp .ge 28, 3) := by decide +kernel
theorem d_Mo_items_35 : decode prog_14_method_60_code 35 = .ok (.iload 6, 2) := by decide +kernel
theorem d_Mo_items_37 : decode prog_14_method_60_code 37 = .ok (.aload_n 0, 1) := by decide +kernel
theorem d_Mo_items_38 : decode prog_14_method_60_code 38 = .ok (.aload_n 0, 1) := by decide +kernel
theorem d_Mo_items_39 : decode prog_14_method_60_code 39 = .ok (.getfield 16, 3) := by decide +kernel
theorem d_Mo_items_42 : decode prog_14_method_60_code 42 = .ok (.iload_n 1, 1) := by decide +kernel
theorem d_Mo_items_43 : decode prog_14_method_60_code 43 = .ok (.iaload, 1) := by decide +kernel
theorem d_Mo_items_44 : decode prog_14_method_60_code 44 = .ok (.iload 6, 2) := by decide +kernel
theorem d_Mo_items_46 : decode prog_14_method_60_code 46 = .ok (.bipush 24, 2) := by decide +kernel
theorem d_Mo_items_48 : decode prog_14_method_60_code 48 = .ok (.invokevirtual 205, 3) := by decide +kernel
theorem d_Mo_items_51 : decode prog_14_method_60_code 51 = .ok (.iadd, 1) := by decide +kernel
theorem d_Mo_items_52 : decode prog_14_method_60_code 52 = .ok (.istore 6, 2) := by decide +kernel
theorem d_Mo_items_54 : decode prog_14_method_60_code 54 = .ok (.iinc 7 1, 3) := by decide +kernel
theorem d_Mo_items_57 : decode prog_14_method_60_code 57 = .ok (.goto (-29), 3) := by decide +kernel
theorem d_Mo_items_60 : decode prog_14_method_60_code 60 = .ok (.aload_n 0, 1) := by decide +kernel
theorem d_Mo_items_61 : decode prog_14_method_60_code 61 = .ok (.aload_n 0, 1) := by decide +kernel
theorem d_Mo_items_62 : decode prog_14_method_60_code 62 = .ok (.getfield 16, 3) := by decide +kernel
theorem d_Mo_items_65 : decode prog_14_method_60_code 65 = .ok (.iload_n 1, 1) := by decide +kernel
theorem d_Mo_items_66 : decode prog_14_method_60_code 66 = .ok (.iaload, 1) := by decide +kernel
theorem d_Mo_items_67 : decode prog_14_method_60_code 67 = .ok (.iload 6, 2) := by decide +kernel
theorem d_Mo_items_69 : decode prog_14_method_60_code 69 = .ok (.aload_n 0, 1) := by decide +kernel
theorem d_Mo_items_70 : decode prog_14_method_60_code 70 = .ok (.getfield 16, 3) := by decide +kernel
theorem d_Mo_items_73 : decode prog_14_method_60_code 73 = .ok (.iload_n 3, 1) := by decide +kernel
theorem d_Mo_items_74 : decode prog_14_method_60_code 74 = .ok (.iaload, 1) := by decide +kernel
theorem d_Mo_items_75 : decode prog_14_method_60_code 75 = .ok (.invokevirtual 264, 3) := by decide +kernel
theorem d_Mo_items_78 : decode prog_14_method_60_code 78 = .ok (.iinc 5 (-1), 3) := by decide +kernel
theorem d_Mo_items_81 : decode prog_14_method_60_code 81 = .ok (.goto (-66), 3) := by decide +kernel
theorem d_Mo_items_84 : decode prog_14_method_60_code 84 = .ok (.return_, 1) := by decide +kernel
theorem d_Mo_placeOf_0 : decode prog_14_method_61_code 0 = .ok (.iload_n 2, 1) := by decide +kernel
theorem d_Mo_placeOf_1 : decode prog_14_method_61_code 1 = .ok (.istore 4, 2) := by decide +kernel
theorem d_Mo_placeOf_3 : decode prog_14_method_61_code 3 = .ok (.iconst 3, 1) := by decide +kernel
theorem d_Mo_placeOf_4 : decode prog_14_method_61_code 4 = .ok (.iload_n 1, 1) := by decide +kernel
theorem d_Mo_placeOf_5 : decode prog_14_method_61_code 5 = .ok (.imul, 1) := by decide +kernel
theorem d_Mo_placeOf_6 : decode prog_14_method_61_code 6 = .ok (.istore 5, 2) := by decide +kernel
theorem d_Mo_placeOf_8 : decode prog_14_method_61_code 8 = .ok (.iload 5, 2) := by decide +kernel
theorem d_Mo_placeOf_10 : decode prog_14_method_61_code 10 = .ok (.iload_n 3, 1) := by decide +kernel
theorem d_Mo_placeOf_11 : decode prog_14_method_61_code 11 = .ok (.if_icmp .ge 29, 3) := by decide +kernel
theorem d_Mo_placeOf_14 : decode prog_14_method_61_code 14 = .ok (.iload 4, 2) := by decide +kernel
theorem d_Mo_placeOf_16 : decode prog_14_method_61_code 16 = .ok (.aload_n 0, 1) := by decide +kernel
theorem d_Mo_placeOf_17 : decode prog_14_method_61_code 17 = .ok (.aload_n 0, 1) := by decide +kernel
theorem d_Mo_placeOf_18 : decode prog_14_method_61_code 18 = .ok (.getfield 31, 3) := by decide +kernel
theorem d_Mo_placeOf_21 : decode prog_14_method_61_code 21 = .ok (.iload 5, 2) := by decide +kernel
theorem d_Mo_placeOf_23 : decode prog_14_method_61_code 23 = .ok (.iaload, 1) := by decide +kernel
theorem d_Mo_placeOf_24 : decode prog_14_method_61_code 24 = .ok (.iload 4, 2) := by decide +kernel
theorem d_Mo_placeOf_26 : decode prog_14_method_61_code 26 = .ok (.bipush 24, 2) := by decide +kernel
theorem d_Mo_placeOf_28 : decode prog_14_method_61_code 28 = .ok (.invokevirtual 205, 3) := by decide +kernel
theorem d_Mo_placeOf_31 : decode prog_14_method_61_code 31 = .ok (.iadd, 1) := by decide +kernel
theorem d_Mo_placeOf_32 : decode prog_14_method_61_code 32 = .ok (.istore 4, 2) := by decide +kernel
theorem d_Mo_placeOf_34 : decode prog_14_method_61_code 34 = .ok (.iinc 5 1, 3) := by decide +kernel
theorem d_Mo_placeOf_37 : decode prog_14_method_61_code 37 = .ok (.goto (-29), 3) := by decide +kernel
theorem d_Mo_placeOf_40 : decode prog_14_method_61_code 40 = .ok (.iload 4, 2) := by decide +kernel
theorem d_Mo_placeOf_42 : decode prog_14_method_61_code 42 = .ok (.ireturn, 1) := by decide +kernel
theorem d_Mo_ofRecord_0 : decode prog_14_method_62_code 0 = .ok (.iconst 3, 1) := by decide +kernel
theorem d_Mo_ofRecord_1 : decode prog_14_method_62_code 1 = .ok (.iload_n 3, 1) := by decide +kernel
theorem d_Mo_ofRecord_2 : decode prog_14_method_62_code 2 = .ok (.imul, 1) := by decide +kernel
theorem d_Mo_ofRecord_3 : decode prog_14_method_62_code 3 = .ok (.aload_n 0, 1) := by decide +kernel
theorem d_Mo_ofRecord_4 : decode prog_14_method_62_code 4 = .ok (.getfield 25, 3) := by decide +kernel
theorem d_Mo_ofRecord_7 : decode prog_14_method_62_code 7 = .ok (.iload_n 3, 1) := by decide +kernel
theorem d_Mo_ofRecord_8 : decode prog_14_method_62_code 8 = .ok (.iaload, 1) := by decide +kernel
theorem d_Mo_ofRecord_9 : decode prog_14_method_62_code 9 = .ok (.iadd, 1) := by decide +kernel
theorem d_Mo_ofRecord_10 : decode prog_14_method_62_code 10 = .ok (.iconst 1, 1) := by decide +kernel
theorem d_Mo_ofRecord_11 : decode prog_14_method_62_code 11 = .ok (.isub, 1) := by decide +kernel
theorem d_Mo_ofRecord_12 : decode prog_14_method_62_code 12 = .ok (.istore 4, 2) := by decide +kernel
theorem d_Mo_ofRecord_14 : decode prog_14_method_62_code 14 = .ok (.iload 4, 2) := by decide +kernel
theorem d_Mo_ofRecord_16 : decode prog_14_method_62_code 16 = .ok (.iconst 3, 1) := by decide +kernel
theorem d_Mo_ofRecord_17 : decode prog_14_method_62_code 17 = .ok (.iload_n 3, 1) := by decide +kernel
theorem d_Mo_ofRecord_18 : decode prog_14_method_62_code 18 = .ok (.imul, 1) := by decide +kernel
theorem d_Mo_ofRecord_19 : decode prog_14_method_62_code 19 = .ok (.if_icmp .lt 86, 3) := by decide +kernel
theorem d_Mo_ofRecord_22 : decode prog_14_method_62_code 22 = .ok (.aload_n 0, 1) := by decide +kernel
theorem d_Mo_ofRecord_23 : decode prog_14_method_62_code 23 = .ok (.iload_n 1, 1) := by decide +kernel
theorem d_Mo_ofRecord_24 : decode prog_14_method_62_code 24 = .ok (.aload_n 0, 1) := by decide +kernel
theorem d_Mo_ofRecord_25 : decode prog_14_method_62_code 25 = .ok (.getfield 28, 3) := by decide +kernel
theorem d_Mo_ofRecord_28 : decode prog_14_method_62_code 28 = .ok (.iload 4, 2) := by decide +kernel
theorem d_Mo_ofRecord_30 : decode prog_14_method_62_code 30 = .ok (.iaload, 1) := by decide +kernel
theorem d_Mo_ofRecord_31 : decode prog_14_method_62_code 31 = .ok (.invokevirtual 120, 3) := by decide +kernel
theorem d_Mo_ofRecord_34 : decode prog_14_method_62_code 34 = .ok (.istore 5, 2) := by decide +kernel
theorem d_Mo_ofRecord_36 : decode prog_14_method_62_code 36 = .ok (.iload 5, 2) := by decide +kernel
theorem d_Mo_ofRecord_38 : decode prog_14_method_62_code 38 = .ok (.ifCond .ge 15, 3) := by decide +kernel
theorem d_Mo_ofRecord_41 : decode prog_14_method_62_code 41 = .ok (.aload_n 0, 1) := by decide +kernel
theorem d_Mo_ofRecord_42 : decode prog_14_method_62_code 42 = .ok (.getfield 34, 3) := by decide +kernel
theorem d_Mo_ofRecord_45 : decode prog_14_method_62_code 45 = .ok (.iload 4, 2) := by decide +kernel
theorem d_Mo_ofRecord_47 : decode prog_14_method_62_code 47 = .ok (.baload, 1) := by decide +kernel
theorem d_Mo_ofRecord_48 : decode prog_14_method_62_code 48 = .ok (.ifCond .ne 5, 3) := by decide +kernel
theorem d_Mo_ofRecord_51 : decode prog_14_method_62_code 51 = .ok (.iconst 0, 1) := by decide +kernel
theorem d_Mo_ofRecord_52 : decode prog_14_method_62_code 52 = .ok (.ireturn, 1) := by decide +kernel
theorem d_Mo_ofRecord_53 : decode prog_14_method_62_code 53 = .ok (.iload 5, 2) := by decide +kernel
theorem d_Mo_ofRecord_55 : decode prog_14_method_62_code 55 = .ok (.ifCond .ge 14, 3) := by decide +kernel
theorem d_Mo_ofRecord_58 : decode prog_14_method_62_code 58 = .ok (.aload_n 0, 1) := by decide +kernel
theorem d_Mo_ofRecord_59 : decode prog_14_method_62_code 59 = .ok (.iconst (-1), 1) := by decide +kernel
theorem d_Mo_ofRecord_60 : decode prog_14_method_62_code 60 = .ok (.iconst 0, 1) := by decide +kernel
theorem d_Mo_ofRecord_61 : decode prog_14_method_62_code 61 = .ok (.iload 4, 2) := by decide +kernel
theorem d_Mo_ofRecord_63 : decode prog_14_method_62_code 63 = .ok (.invokevirtual 264, 3) := by decide +kernel
theorem d_Mo_ofRecord_66 : decode prog_14_method_62_code 66 = .ok (.goto 33, 3) := by decide +kernel
theorem d_Mo_ofRecord_69 : decode prog_14_method_62_code 69 = .ok (.aload_n 0, 1) := by decide +kernel
theorem d_Mo_ofRecord_70 : decode prog_14_method_62_code 70 = .ok (.iload_n 1, 1) := by decide +kernel
theorem d_Mo_ofRecord_71 : decode prog_14_method_62_code 71 = .ok (.iload_n 2, 1) := by decide +kernel
theorem d_Mo_ofRecord_72 : decode prog_14_method_62_code 72 = .ok (.iload 5, 2) := by decide +kernel
theorem d_Mo_ofRecord_74 : decode prog_14_method_62_code 74 = .ok (.invokevirtual 285, 3) := by decide +kernel
theorem d_Mo_ofRecord_77 : decode prog_14_method_62_code 77 = .ok (.istore 6, 2) := by decide +kernel
theorem d_Mo_ofRecord_79 : decode prog_14_method_62_code 79 = .ok (.aload_n 0, 1) := by decide +kernel
theorem d_Mo_ofRecord_80 : decode prog_14_method_62_code 80 = .ok (.aload_n 0, 1) := by decide +kernel
theorem d_Mo_ofRecord_81 : decode prog_14_method_62_code 81 = .ok (.getfield 31, 3) := by decide +kernel
theorem d_Mo_ofRecord_84 : decode prog_14_method_62_code 84 = .ok (.iload 5, 2) := by decide +kernel
theorem d_Mo_ofRecord_86 : decode prog_14_method_62_code 86 = .ok (.iaload, 1) := by decide +kernel
theorem d_Mo_ofRecord_87 : decode prog_14_method_62_code 87 = .ok (.iload 6, 2) := by decide +kernel
theorem d_Mo_ofRecord_89 : decode prog_14_method_62_code 89 = .ok (.aload_n 0, 1) := by decide +kernel
theorem d_Mo_ofRecord_90 : decode prog_14_method_62_code 90 = .ok (.getfield 31, 3) := by decide +kernel
theorem d_Mo_ofRecord_93 : decode prog_14_method_62_code 93 = .ok (.iload 4, 2) := by decide +kernel
theorem d_Mo_ofRecord_95 : decode prog_14_method_62_code 95 = .ok (.iaload, 1) := by decide +kernel
theorem d_Mo_ofRecord_96 : decode prog_14_method_62_code 96 = .ok (.invokevirtual 264, 3) := by decide +kernel
theorem d_Mo_ofRecord_99 : decode prog_14_method_62_code 99 = .ok (.iinc 4 (-1), 3) := by decide +kernel
theorem d_Mo_ofRecord_102 : decode prog_14_method_62_code 102 = .ok (.goto (-88), 3) := by decide +kernel
theorem d_Mo_ofRecord_105 : decode prog_14_method_62_code 105 = .ok (.iconst 1, 1) := by decide +kernel
theorem d_Mo_ofRecord_106 : decode prog_14_method_62_code 106 = .ok (.ireturn, 1) := by decide +kernel
theorem d_Mo_symbolOf_0 : decode prog_14_method_59_code 0 = .ok (.aload_n 0, 1) := by decide +kernel
theorem d_Mo_symbolOf_1 : decode prog_14_method_59_code 1 = .ok (.getfield 16, 3) := by decide +kernel
theorem d_Mo_symbolOf_4 : decode prog_14_method_59_code 4 = .ok (.iload_n 1, 1) := by decide +kernel
theorem d_Mo_symbolOf_5 : decode prog_14_method_59_code 5 = .ok (.iaload, 1) := by decide +kernel
theorem d_Mo_symbolOf_6 : decode prog_14_method_59_code 6 = .ok (.iload_n 2, 1) := by decide +kernel
theorem d_Mo_symbolOf_7 : decode prog_14_method_59_code 7 = .ok (.ishr, 1) := by decide +kernel
theorem d_Mo_symbolOf_8 : decode prog_14_method_59_code 8 = .ok (.iconst 1, 1) := by decide +kernel
theorem d_Mo_symbolOf_9 : decode prog_14_method_59_code 9 = .ok (.iand, 1) := by decide +kernel
theorem d_Mo_symbolOf_10 : decode prog_14_method_59_code 10 = .ok (.iconst 1, 1) := by decide +kernel
theorem d_Mo_symbolOf_11 : decode prog_14_method_59_code 11 = .ok (.if_icmp .ne 7, 3) := by decide +kernel
theorem d_Mo_symbolOf_14 : decode prog_14_method_59_code 14 = .ok (.iconst 1, 1) := by decide +kernel
theorem d_Mo_symbolOf_15 : decode prog_14_method_59_code 15 = .ok (.goto 4, 3) := by decide +kernel
theorem d_Mo_symbolOf_18 : decode prog_14_method_59_code 18 = .ok (.iconst 0, 1) := by decide +kernel
theorem d_Mo_symbolOf_19 : decode prog_14_method_59_code 19 = .ok (.istore_n 3, 1) := by decide +kernel
theorem d_Mo_symbolOf_20 : decode prog_14_method_59_code 20 = .ok (.iload_n 3, 1) := by decide +kernel
theorem d_Mo_symbolOf_21 : decode prog_14_method_59_code 21 = .ok (.ifCond .ne 15, 3) := by decide +kernel
theorem d_Mo_symbolOf_24 : decode prog_14_method_59_code 24 = .ok (.aload_n 0, 1) := by decide +kernel
theorem d_Mo_symbolOf_25 : decode prog_14_method_59_code 25 = .ok (.getfield 19, 3) := by decide +kernel
theorem d_Mo_symbolOf_28 : decode prog_14_method_59_code 28 = .ok (.iload_n 1, 1) := by decide +kernel
theorem d_Mo_symbolOf_29 : decode prog_14_method_59_code 29 = .ok (.iaload, 1) := by decide +kernel
theorem d_Mo_symbolOf_30 : decode prog_14_method_59_code 30 = .ok (.iconst (-1), 1) := by decide +kernel
theorem d_Mo_symbolOf_31 : decode prog_14_method_59_code 31 = .ok (.if_icmp .ne 5, 3) := by decide +kernel
theorem d_Mo_symbolOf_34 : decode prog_14_method_59_code 34 = .ok (.iconst 0, 1) := by decide +kernel
theorem d_Mo_symbolOf_35 : decode prog_14_method_59_code 35 = .ok (.ireturn, 1) := by decide +kernel
theorem d_Mo_symbolOf_36 : decode prog_14_method_59_code 36 = .ok (.aload_n 0, 1) := by decide +kernel
theorem d_Mo_symbolOf_37 : decode prog_14_method_59_code 37 = .ok (.iload_n 3, 1) := by decide +kernel
theorem d_Mo_symbolOf_38 : decode prog_14_method_59_code 38 = .ok (.ifCond .eq 8, 3) := by decide +kernel
theorem d_Mo_symbolOf_41 : decode prog_14_method_59_code 41 = .ok (.iload_n 2, 1) := by decide +kernel
theorem d_Mo_symbolOf_42 : decode prog_14_method_59_code 42 = .ok (.i2l, 1) := by decide +kernel
theorem d_Mo_symbolOf_43 : decode prog_14_method_59_code 43 = .ok (.goto 10, 3) := by decide +kernel
theorem d_Mo_symbolOf_46 : decode prog_14_method_59_code 46 = .ok (.aload_n 0, 1) := by decide +kernel
theorem d_Mo_symbolOf_47 : decode prog_14_method_59_code 47 = .ok (.getfield 19, 3) := by decide +kernel
theorem d_Mo_symbolOf_50 : decode prog_14_method_59_code 50 = .ok (.iload_n 1, 1) := by decide +kernel
theorem d_Mo_symbolOf_51 : decode prog_14_method_59_code 51 = .ok (.iaload, 1) := by decide +kernel
theorem d_Mo_symbolOf_52 : decode prog_14_method_59_code 52 = .ok (.i2l, 1) := by decide +kernel
theorem d_Mo_symbolOf_53 : decode prog_14_method_59_code 53 = .ok (.invokevirtual 273, 3) := by decide +kernel
theorem d_Mo_symbolOf_56 : decode prog_14_method_59_code 56 = .ok (.iconst 1, 1) := by decide +kernel
theorem d_Mo_symbolOf_57 : decode prog_14_method_59_code 57 = .ok (.ireturn, 1) := by decide +kernel
theorem d_Mo_part_0 : decode prog_14_method_58_code 0 = .ok (.aload_n 0, 1) := by decide +kernel
theorem d_Mo_part_1 : decode prog_14_method_58_code 1 = .ok (.getfield 7, 3) := by decide +kernel
theorem d_Mo_part_4 : decode prog_14_method_58_code 4 = .ok (.iload_n 1, 1) := by decide +kernel
theorem d_Mo_part_5 : decode prog_14_method_58_code 5 = .ok (.iaload, 1) := by decide +kernel
theorem d_Mo_part_6 : decode prog_14_method_58_code 6 = .ok (.bipush 6, 2) := by decide +kernel
theorem d_Mo_part_8 : decode prog_14_method_58_code 8 = .ok (.if_icmp .ne 39, 3) := by decide +kernel
theorem d_Mo_part_11 : decode prog_14_method_58_code 11 = .ok (.aload_n 0, 1) := by decide +kernel
theorem d_Mo_part_12 : decode prog_14_method_58_code 12 = .ok (.aload_n 0, 1) := by decide +kernel
theorem d_Mo_part_13 : decode prog_14_method_58_code 13 = .ok (.getfield 66, 3) := by decide +kernel
theorem d_Mo_part_16 : decode prog_14_method_58_code 16 = .ok (.iload_n 2, 1) := by decide +kernel
theorem d_Mo_part_17 : decode prog_14_method_58_code 17 = .ok (.laload, 1) := by decide +kernel
theorem d_Mo_part_18 : decode prog_14_method_58_code 18 = .ok (.lconst 0, 1) := by decide +kernel
theorem d_Mo_part_19 : decode prog_14_method_58_code 19 = .ok (.lcmp, 1) := by decide +kernel
theorem d_Mo_part_20 : decode prog_14_method_58_code 20 = .ok (.ifCond .ne 12, 3) := by decide +kernel
theorem d_Mo_part_23 : decode prog_14_method_58_code 23 = .ok (.aload_n 0, 1) := by decide +kernel
theorem d_Mo_part_24 : decode prog_14_method_58_code 24 = .ok (.getfield 16, 3) := by decide +kernel
theorem d_Mo_part_27 : decode prog_14_method_58_code 27 = .ok (.iload_n 1, 1) := by decide +kernel
theorem d_Mo_part_28 : decode prog_14_method_58_code 28 = .ok (.iaload, 1) := by decide +kernel
theorem d_Mo_part_29 : decode prog_14_method_58_code 29 = .ok (.goto 9, 3) := by decide +kernel
theorem d_Mo_part_32 : decode prog_14_method_58_code 32 = .ok (.aload_n 0, 1) := by decide +kernel
theorem d_Mo_part_33 : decode prog_14_method_58_code 33 = .ok (.getfield 19, 3) := by decide +kernel
theorem d_Mo_part_36 : decode prog_14_method_58_code 36 = .ok (.iload_n 1, 1) := by decide +kernel
theorem d_Mo_part_37 : decode prog_14_method_58_code 37 = .ok (.iaload, 1) := by decide +kernel
theorem d_Mo_part_38 : decode prog_14_method_58_code 38 = .ok (.iload_n 2, 1) := by decide +kernel
theorem d_Mo_part_39 : decode prog_14_method_58_code 39 = .ok (.iconst 1, 1) := by decide +kernel
theorem d_Mo_part_40 : decode prog_14_method_58_code 40 = .ok (.iadd, 1) := by decide +kernel
theorem d_Mo_part_41 : decode prog_14_method_58_code 41 = .ok (.iload_n 3, 1) := by decide +kernel
theorem d_Mo_part_42 : decode prog_14_method_58_code 42 = .ok (.invokevirtual 264, 3) := by decide +kernel
theorem d_Mo_part_45 : decode prog_14_method_58_code 45 = .ok (.iconst 1, 1) := by decide +kernel
theorem d_Mo_part_46 : decode prog_14_method_58_code 46 = .ok (.ireturn, 1) := by decide +kernel
theorem d_Mo_part_47 : decode prog_14_method_58_code 47 = .ok (.aload_n 0, 1) := by decide +kernel
theorem d_Mo_part_48 : decode prog_14_method_58_code 48 = .ok (.getfield 7, 3) := by decide +kernel
theorem d_Mo_part_51 : decode prog_14_method_58_code 51 = .ok (.iload_n 3, 1) := by decide +kernel
theorem d_Mo_part_52 : decode prog_14_method_58_code 52 = .ok (.iaload, 1) := by decide +kernel
theorem d_Mo_part_53 : decode prog_14_method_58_code 53 = .ok (.bipush 6, 2) := by decide +kernel
theorem d_Mo_part_55 : decode prog_14_method_58_code 55 = .ok (.if_icmp .ne 39, 3) := by decide +kernel
theorem d_Mo_part_58 : decode prog_14_method_58_code 58 = .ok (.aload_n 0, 1) := by decide +kernel
theorem d_Mo_part_59 : decode prog_14_method_58_code 59 = .ok (.iload_n 3, 1) := by decide +kernel
theorem d_Mo_part_60 : decode prog_14_method_58_code 60 = .ok (.iload_n 1, 1) := by decide +kernel
theorem d_Mo_part_61 : decode prog_14_method_58_code 61 = .ok (.invokevirtual 110, 3) := by decide +kernel
theorem d_Mo_part_64 : decode prog_14_method_58_code 64 = .ok (.istore 4, 2) := by decide +kernel
theorem d_Mo_part_66 : decode prog_14_method_58_code 66 = .ok (.iload 4, 2) := by decide +kernel
theorem d_Mo_part_68 : decode prog_14_method_58_code 68 = .ok (.ifCond .ge 5, 3) := by decide +kernel
theorem d_Mo_part_71 : decode prog_14_method_58_code 71 = .ok (.iconst 0, 1) := by decide +kernel
theorem d_Mo_part_72 : decode prog_14_method_58_code 72 = .ok (.ireturn, 1) := by decide +kernel
theorem d_Mo_part_73 : decode prog_14_method_58_code 73 = .ok (.aload_n 0, 1) := by decide +kernel
theorem d_Mo_part_74 : decode prog_14_method_58_code 74 = .ok (.iload 4, 2) := by decide +kernel
theorem d_Mo_part_76 : decode prog_14_method_58_code 76 = .ok (.i2l, 1) := by decide +kernel
theorem d_Mo_part_77 : decode prog_14_method_58_code 77 = .ok (.invokevirtual 273, 3) := by decide +kernel
theorem d_Mo_part_80 : decode prog_14_method_58_code 80 = .ok (.aload_n 0, 1) := by decide +kernel
theorem d_Mo_part_81 : decode prog_14_method_58_code 81 = .ok (.iload_n 1, 1) := by decide +kernel
theorem d_Mo_part_82 : decode prog_14_method_58_code 82 = .ok (.iload_n 2, 1) := by decide +kernel
theorem d_Mo_part_83 : decode prog_14_method_58_code 83 = .ok (.aload_n 0, 1) := by decide +kernel
theorem d_Mo_part_84 : decode prog_14_method_58_code 84 = .ok (.iload_n 3, 1) := by decide +kernel
theorem d_Mo_part_85 : decode prog_14_method_58_code 85 = .ok (.iload_n 1, 1) := by decide +kernel
theorem d_Mo_part_86 : decode prog_14_method_58_code 86 = .ok (.invokevirtual 114, 3) := by decide +kernel
theorem d_Mo_part_89 : decode prog_14_method_58_code 89 = .ok (.invokevirtual 264, 3) := by decide +kernel
theorem d_Mo_part_92 : decode prog_14_method_58_code 92 = .ok (.iconst 1, 1) := by decide +kernel
theorem d_Mo_part_93 : decode prog_14_method_58_code 93 = .ok (.ireturn, 1) := by decide +kernel
theorem d_Mo_part_94 : decode prog_14_method_58_code 94 = .ok (.aload_n 0, 1) := by decide +kernel
theorem d_Mo_part_95 : decode prog_14_method_58_code 95 = .ok (.getfield 7, 3) := by decide +kernel
theorem d_Mo_part_98 : decode prog_14_method_58_code 98 = .ok (.iload_n 1, 1) := by decide +kernel
theorem d_Mo_part_99 : decode prog_14_method_58_code 99 = .ok (.iaload, 1) := by decide +kernel
theorem d_Mo_part_100 : decode prog_14_method_58_code 100 = .ok (.aload_n 0, 1) := by decide +kernel
theorem d_Mo_part_101 : decode prog_14_method_58_code 101 = .ok (.getfield 7, 3) := by decide +kernel
theorem d_Mo_part_104 : decode prog_14_method_58_code 104 = .ok (.iload_n 3, 1) := by decide +kernel
theorem d_Mo_part_105 : decode prog_14_method_58_code 105 = .ok (.iaload, 1) := by decide +kernel
theorem d_Mo_part_106 : decode prog_14_method_58_code 106 = .ok (.if_icmp .eq 37, 3) := by decide +kernel
theorem d_Mo_part_109 : decode prog_14_method_58_code 109 = .ok (.aload_n 0, 1) := by decide +kernel
theorem d_Mo_part_110 : decode prog_14_method_58_code 110 = .ok (.getfield 7, 3) := by decide +kernel
theorem d_Mo_part_113 : decode prog_14_method_58_code 113 = .ok (.iload_n 1, 1) := by decide +kernel
theorem d_Mo_part_114 : decode prog_14_method_58_code 114 = .ok (.iaload, 1) := by decide +kernel
theorem d_Mo_part_115 : decode prog_14_method_58_code 115 = .ok (.iconst 2, 1) := by decide +kernel
theorem d_Mo_part_116 : decode prog_14_method_58_code 116 = .ok (.if_icmp .ne 13, 3) := by decide +kernel
theorem d_Mo_part_119 : decode prog_14_method_58_code 119 = .ok (.aload_n 0, 1) := by decide +kernel
theorem d_Mo_part_120 : decode prog_14_method_58_code 120 = .ok (.getfield 7, 3) := by decide +kernel
theorem d_Mo_part_123 : decode prog_14_method_58_code 123 = .ok (.iload_n 3, 1) := by decide +kernel
theorem d_Mo_part_124 : decode prog_14_method_58_code 124 = .ok (.iaload, 1) := by decide +kernel
theorem d_Mo_part_125 : decode prog_14_method_58_code 125 = .ok (.iconst 3, 1) := by decide +kernel
theorem d_Mo_part_126 : decode prog_14_method_58_code 126 = .ok (.if_icmp .eq 5, 3) := by decide +kernel
theorem d_Mo_part_129 : decode prog_14_method_58_code 129 = .ok (.iconst 0, 1) := by decide +kernel
theorem d_Mo_part_130 : decode prog_14_method_58_code 130 = .ok (.ireturn, 1) := by decide +kernel
theorem d_Mo_part_131 : decode prog_14_method_58_code 131 = .ok (.aload_n 0, 1) := by decide +kernel
theorem d_Mo_part_132 : decode prog_14_method_58_code 132 = .ok (.aload_n 0, 1) := by decide +kernel
theorem d_Mo_part_133 : decode prog_14_method_58_code 133 = .ok (.getfield 66, 3) := by decide +kernel
theorem d_Mo_part_136 : decode prog_14_method_58_code 136 = .ok (.iload_n 2, 1) := by decide +kernel
theorem d_Mo_part_137 : decode prog_14_method_58_code 137 = .ok (.laload, 1) := by decide +kernel
theorem d_Mo_part_138 : decode prog_14_method_58_code 138 = .ok (.invokevirtual 273, 3) := by decide +kernel
theorem d_Mo_part_141 : decode prog_14_method_58_code 141 = .ok (.iconst 1, 1) := by decide +kernel
theorem d_Mo_part_142 : decode prog_14_method_58_code 142 = .ok (.ireturn, 1) := by decide +kernel
theorem d_Mo_part_143 : decode prog_14_method_58_code 143 = .ok (.aload_n 0, 1) := by decide +kernel
theorem d_Mo_part_144 : decode prog_14_method_58_code 144 = .ok (.getfield 7, 3) := by decide +kernel
theorem d_Mo_part_147 : decode prog_14_method_58_code 147 = .ok (.iload_n 3, 1) := by decide +kernel
theorem d_Mo_part_148 : decode prog_14_method_58_code 148 = .ok (.iaload, 1) := by decide +kernel
theorem d_Mo_part_149 : decode prog_14_method_58_code 149 = .ok (.bipush 7, 2) := by decide +kernel
theorem d_Mo_part_151 : decode prog_14_method_58_code 151 = .ok (.if_icmp .ne 34, 3) := by decide +kernel
theorem d_Mo_part_154 : decode prog_14_method_58_code 154 = .ok (.aload_n 0, 1) := by decide +kernel
theorem d_Mo_part_155 : decode prog_14_method_58_code 155 = .ok (.getfield 13, 3) := by decide +kernel
theorem d_Mo_part_158 : decode prog_14_method_58_code 158 = .ok (.iload_n 1, 1) := by decide +kernel
theorem d_Mo_part_159 : decode prog_14_method_58_code 159 = .ok (.iaload, 1) := by decide +kernel
theorem d_Mo_part_160 : decode prog_14_method_58_code 160 = .ok (.aload_n 0, 1) := by decide +kernel
theorem d_Mo_part_161 : decode prog_14_method_58_code 161 = .ok (.getfield 13, 3) := by decide +kernel
theorem d_Mo_part_164 : decode prog_14_method_58_code 164 = .ok (.iload_n 3, 1) := by decide +kernel
theorem d_Mo_part_165 : decode prog_14_method_58_code 165 = .ok (.iaload, 1) := by decide +kernel
theorem d_Mo_part_166 : decode prog_14_method_58_code 166 = .ok (.if_icmp .ne 17, 3) := by decide +kernel
theorem d_Mo_part_169 : decode prog_14_method_58_code 169 = .ok (.aload_n 0, 1) := by decide +kernel
theorem d_Mo_part_170 : decode prog_14_method_58_code 170 = .ok (.iload_n 1, 1) := by decide +kernel
theorem d_Mo_part_171 : decode prog_14_method_58_code 171 = .ok (.iload_n 2, 1) := by decide +kernel
theorem d_Mo_part_172 : decode prog_14_method_58_code 172 = .ok (.iload_n 3, 1) := by decide +kernel
theorem d_Mo_part_173 : decode prog_14_method_58_code 173 = .ok (.invokevirtual 276, 3) := by decide +kernel
theorem d_Mo_part_176 : decode prog_14_method_58_code 176 = .ok (.ifCond .eq 7, 3) := by decide +kernel
theorem d_Mo_part_179 : decode prog_14_method_58_code 179 = .ok (.iconst 1, 1) := by decide +kernel
theorem d_Mo_part_180 : decode prog_14_method_58_code 180 = .ok (.goto 4, 3) := by decide +kernel
theorem d_Mo_part_183 : decode prog_14_method_58_code 183 = .ok (.iconst 0, 1) := by decide +kernel
theorem d_Mo_part_184 : decode prog_14_method_58_code 184 = .ok (.ireturn, 1) := by decide +kernel
theorem d_Mo_part_185 : decode prog_14_method_58_code 185 = .ok (.aload_n 0, 1) := by decide +kernel
theorem d_Mo_part_186 : decode prog_14_method_58_code 186 = .ok (.getfield 7, 3) := by decide +kernel
theorem d_Mo_part_189 : decode prog_14_method_58_code 189 = .ok (.iload_n 3, 1) := by decide +kernel
theorem d_Mo_part_190 : decode prog_14_method_58_code 190 = .ok (.iaload, 1) := by decide +kernel
theorem d_Mo_part_191 : decode prog_14_method_58_code 191 = .ok (.iconst 4, 1) := by decide +kernel
theorem d_Mo_part_192 : decode prog_14_method_58_code 192 = .ok (.if_icmp .ne 39, 3) := by decide +kernel
theorem d_Mo_part_195 : decode prog_14_method_58_code 195 = .ok (.aload_n 0, 1) := by decide +kernel
theorem d_Mo_part_196 : decode prog_14_method_58_code 196 = .ok (.getfield 13, 3) := by decide +kernel
theorem d_Mo_part_199 : decode prog_14_method_58_code 199 = .ok (.iload_n 1, 1) := by decide +kernel
theorem d_Mo_part_200 : decode prog_14_method_58_code 200 = .ok (.iaload, 1) := by decide +kernel
theorem d_Mo_part_201 : decode prog_14_method_58_code 201 = .ok (.aload_n 0, 1) := by decide +kernel
theorem d_Mo_part_202 : decode prog_14_method_58_code 202 = .ok (.getfield 13, 3) := by decide +kernel
theorem d_Mo_part_205 : decode prog_14_method_58_code 205 = .ok (.iload_n 3, 1) := by decide +kernel
theorem d_Mo_part_206 : decode prog_14_method_58_code 206 = .ok (.iaload, 1) := by decide +kernel
theorem d_Mo_part_207 : decode prog_14_method_58_code 207 = .ok (.if_icmp .ne 22, 3) := by decide +kernel
theorem d_Mo_part_210 : decode prog_14_method_58_code 210 = .ok (.aload_n 0, 1) := by decide +kernel
theorem d_Mo_part_211 : decode prog_14_method_58_code 211 = .ok (.iload_n 3, 1) := by decide +kernel
theorem d_Mo_part_212 : decode prog_14_method_58_code 212 = .ok (.aload_n 0, 1) := by decide +kernel
theorem d_Mo_part_213 : decode prog_14_method_58_code 213 = .ok (.getfield 66, 3) := by decide +kernel
theorem d_Mo_part_216 : decode prog_14_method_58_code 216 = .ok (.iload_n 2, 1) := by decide +kernel
theorem d_Mo_part_217 : decode prog_14_method_58_code 217 = .ok (.laload, 1) := by decide +kernel
theorem d_Mo_part_218 : decode prog_14_method_58_code 218 = .ok (.l2i, 1) := by decide +kernel
theorem d_Mo_part_219 : decode prog_14_method_58_code 219 = .ok (.invokevirtual 279, 3) := by decide +kernel
theorem d_Mo_part_222 : decode prog_14_method_58_code 222 = .ok (.ifCond .eq 7, 3) := by decide +kernel
theorem d_Mo_part_225 : decode prog_14_method_58_code 225 = .ok (.iconst 1, 1) := by decide +kernel
theorem d_Mo_part_226 : decode prog_14_method_58_code 226 = .ok (.goto 4, 3) := by decide +kernel
theorem d_Mo_part_229 : decode prog_14_method_58_code 229 = .ok (.iconst 0, 1) := by decide +kernel
theorem d_Mo_part_230 : decode prog_14_method_58_code 230 = .ok (.ireturn, 1) := by decide +kernel
theorem d_Mo_part_231 : decode prog_14_method_58_code 231 = .ok (.aload_n 0, 1) := by decide +kernel
theorem d_Mo_part_232 : decode prog_14_method_58_code 232 = .ok (.getfield 7, 3) := by decide +kernel
theorem d_Mo_part_235 : decode prog_14_method_58_code 235 = .ok (.iload_n 3, 1) := by decide +kernel
theorem d_Mo_part_236 : decode prog_14_method_58_code 236 = .ok (.iaload, 1) := by decide +kernel
theorem d_Mo_part_237 : decode prog_14_method_58_code 237 = .ok (.ifCond .eq 13, 3) := by decide +kernel
theorem d_Mo_part_240 : decode prog_14_method_58_code 240 = .ok (.aload_n 0, 1) := by decide +kernel
theorem d_Mo_part_241 : decode prog_14_method_58_code 241 = .ok (.aload_n 0, 1) := by decide +kernel
theorem d_Mo_part_242 : decode prog_14_method_58_code 242 = .ok (.getfield 66, 3) := by decide +kernel
theorem d_Mo_part_245 : decode prog_14_method_58_code 245 = .ok (.iload_n 2, 1) := by decide +kernel
theorem d_Mo_part_246 : decode prog_14_method_58_code 246 = .ok (.laload, 1) := by decide +kernel
theorem d_Mo_part_247 : decode prog_14_method_58_code 247 = .ok (.invokevirtual 273, 3) := by decide +kernel
theorem d_Mo_part_250 : decode prog_14_method_58_code 250 = .ok (.aload_n 0, 1) := by decide +kernel
theorem d_Mo_part_251 : decode prog_14_method_58_code 251 = .ok (.getfield 7, 3) := by decide +kernel
theorem d_Mo_part_254 : decode prog_14_method_58_code 254 = .ok (.iload_n 3, 1) := by decide +kernel
theorem d_Mo_part_255 : decode prog_14_method_58_code 255 = .ok (.iaload, 1) := by decide +kernel
theorem d_Mo_part_256 : decode prog_14_method_58_code 256 = .ok (.iconst 5, 1) := by decide +kernel
theorem d_Mo_part_257 : decode prog_14_method_58_code 257 = .ok (.if_icmp .ne 10, 3) := by decide +kernel
theorem d_Mo_part_260 : decode prog_14_method_58_code 260 = .ok (.aload_n 0, 1) := by decide +kernel
theorem d_Mo_part_261 : decode prog_14_method_58_code 261 = .ok (.iload_n 1, 1) := by decide +kernel
theorem d_Mo_part_262 : decode prog_14_method_58_code 262 = .ok (.iload_n 2, 1) := by decide +kernel
theorem d_Mo_part_263 : decode prog_14_method_58_code 263 = .ok (.iload_n 3, 1) := by decide +kernel
theorem d_Mo_part_264 : decode prog_14_method_58_code 264 = .ok (.invokevirtual 282, 3) := by decide +kernel
theorem d_Mo_part_267 : decode prog_14_method_58_code 267 = .ok (.iconst 1, 1) := by decide +kernel
theorem d_Mo_part_268 : decode prog_14_method_58_code 268 = .ok (.ireturn, 1) := by decide +kernel
theorem d_Mo_resolve_0 : decode prog_14_method_56_code 0 = .ok (.aload_n 0, 1) := by decide +kernel
theorem d_Mo_resolve_1 : decode prog_14_method_56_code 1 = .ok (.iconst 0, 1) := by decide +kernel
theorem d_Mo_resolve_2 : decode prog_14_method_56_code 2 = .ok (.putfield 258, 3) := by decide +kernel
theorem d_Mo_resolve_5 : decode prog_14_method_56_code 5 = .ok (.aload_n 0, 1) := by decide +kernel
theorem d_Mo_resolve_6 : decode prog_14_method_56_code 6 = .ok (.iconst 0, 1) := by decide +kernel
theorem d_Mo_resolve_7 : decode prog_14_method_56_code 7 = .ok (.putfield 261, 3) := by decide +kernel
theorem d_Mo_resolve_10 : decode prog_14_method_56_code 10 = .ok (.aload_n 0, 1) := by decide +kernel
theorem d_Mo_resolve_11 : decode prog_14_method_56_code 11 = .ok (.iload_n 1, 1) := by decide +kernel
theorem d_Mo_resolve_12 : decode prog_14_method_56_code 12 = .ok (.iconst 0, 1) := by decide +kernel
theorem d_Mo_resolve_13 : decode prog_14_method_56_code 13 = .ok (.iload_n 2, 1) := by decide +kernel
theorem d_Mo_resolve_14 : decode prog_14_method_56_code 14 = .ok (.invokevirtual 264, 3) := by decide +kernel
theorem d_Mo_resolve_17 : decode prog_14_method_56_code 17 = .ok (.aload_n 0, 1) := by decide +kernel
theorem d_Mo_resolve_18 : decode prog_14_method_56_code 18 = .ok (.getfield 258, 3) := by decide +kernel
theorem d_Mo_resolve_21 : decode prog_14_method_56_code 21 = .ok (.ifCond .le 86, 3) := by decide +kernel
theorem d_Mo_resolve_24 : decode prog_14_method_56_code 24 = .ok (.aload_n 0, 1) := by decide +kernel
theorem d_Mo_resolve_25 : decode prog_14_method_56_code 25 = .ok (.dup, 1) := by decide +kernel
theorem d_Mo_resolve_26 : decode prog_14_method_56_code 26 = .ok (.getfield 258, 3) := by decide +kernel
theorem d_Mo_resolve_29 : decode prog_14_method_56_code 29 = .ok (.iconst 1, 1) := by decide +kernel
theorem d_Mo_resolve_30 : decode prog_14_method_56_code 30 = .ok (.isub, 1) := by decide +kernel
theorem d_Mo_resolve_31 : decode prog_14_method_56_code 31 = .ok (.putfield 258, 3) := by decide +kernel
theorem d_Mo_resolve_34 : decode prog_14_method_56_code 34 = .ok (.aload_n 0, 1) := by decide +kernel
theorem d_Mo_resolve_35 : decode prog_14_method_56_code 35 = .ok (.getfield 72, 3) := by decide +kernel
theorem d_Mo_resolve_38 : decode prog_14_method_56_code 38 = .ok (.iconst 3, 1) := by decide +kernel
theorem d_Mo_resolve_39 : decode prog_14_method_56_code 39 = .ok (.aload_n 0, 1) := by decide +kernel
theorem d_Mo_resolve_40 : decode prog_14_method_56_code 40 = .ok (.getfield 258, 3) := by decide +kernel
theorem d_Mo_resolve_43 : decode prog_14_method_56_code 43 = .ok (.imul, 1) := by decide +kernel
theorem d_Mo_resolve_44 : decode prog_14_method_56_code 44 = .ok (.iaload, 1) := by decide +kernel
theorem d_Mo_resolve_45 : decode prog_14_method_56_code 45 = .ok (.istore_n 3, 1) := by decide +kernel
theorem d_Mo_resolve_46 : decode prog_14_method_56_code 46 = .ok (.aload_n 0, 1) := by decide +kernel
theorem d_Mo_resolve_47 : decode prog_14_method_56_code 47 = .ok (.getfield 72, 3) := by decide +kernel
theorem d_Mo_resolve_50 : decode prog_14_method_56_code 50 = .ok (.iconst 3, 1) := by decide +kernel
theorem d_Mo_resolve_51 : decode prog_14_method_56_code 51 = .ok (.aload_n 0, 1) := by decide +kernel
theorem d_Mo_resolve_52 : decode prog_14_method_56_code 52 = .ok (.getfield 258, 3) := by decide +kernel
theorem d_Mo_resolve_55 : decode prog_14_method_56_code 55 = .ok (.imul, 1) := by decide +kernel
theorem d_Mo_resolve_56 : decode prog_14_method_56_code 56 = .ok (.iconst 1, 1) := by decide +kernel
theorem d_Mo_resolve_57 : decode prog_14_method_56_code 57 = .ok (.iadd, 1) := by decide +kernel
theorem d_Mo_resolve_58 : decode prog_14_method_56_code 58 = .ok (.iaload, 1) := by decide +kernel
theorem d_Mo_resolve_59 : decode prog_14_method_56_code 59 = .ok (.istore 4, 2) := by decide +kernel
theorem d_Mo_resolve_61 : decode prog_14_method_56_code 61 = .ok (.aload_n 0, 1) := by decide +kernel
theorem d_Mo_resolve_62 : decode prog_14_method_56_code 62 = .ok (.getfield 72, 3) := by decide +kernel
theorem d_Mo_resolve_65 : decode prog_14_method_56_code 65 = .ok (.iconst 3, 1) := by decide +kernel
theorem d_Mo_resolve_66 : decode prog_14_method_56_code 66 = .ok (.aload_n 0, 1) := by decide +kernel
theorem d_Mo_resolve_67 : decode prog_14_method_56_code 67 = .ok (.getfield 258, 3) := by decide +kernel
theorem d_Mo_resolve_70 : decode prog_14_method_56_code 70 = .ok (.imul, 1) := by decide +kernel
theorem d_Mo_resolve_71 : decode prog_14_method_56_code 71 = .ok (.iconst 2, 1) := by decide +kernel
theorem d_Mo_resolve_72 : decode prog_14_method_56_code 72 = .ok (.iadd, 1) := by decide +kernel
theorem d_Mo_resolve_73 : decode prog_14_method_56_code 73 = .ok (.iaload, 1) := by decide +kernel
theorem d_Mo_resolve_74 : decode prog_14_method_56_code 74 = .ok (.istore 5, 2) := by decide +kernel
theorem d_Mo_resolve_76 : decode prog_14_method_56_code 76 = .ok (.iload_n 3, 1) := by decide +kernel
theorem d_Mo_resolve_77 : decode prog_14_method_56_code 77 = .ok (.ifCond .ge 12, 3) := by decide +kernel
theorem d_Mo_resolve_80 : decode prog_14_method_56_code 80 = .ok (.aload_n 0, 1) := by decide +kernel
theorem d_Mo_resolve_81 : decode prog_14_method_56_code 81 = .ok (.iload 5, 2) := by decide +kernel
theorem d_Mo_resolve_83 : decode prog_14_method_56_code 83 = .ok (.invokevirtual 267, 3) := by decide +kernel
theorem d_Mo_resolve_86 : decode prog_14_method_56_code 86 = .ok (.goto 18, 3) := by decide +kernel
theorem d_Mo_resolve_89 : decode prog_14_method_56_code 89 = .ok (.aload_n 0, 1) := by decide +kernel
theorem d_Mo_resolve_90 : decode prog_14_method_56_code 90 = .ok (.iload_n 3, 1) := by decide +kernel
theorem d_Mo_resolve_91 : decode prog_14_method_56_code 91 = .ok (.iload 4, 2) := by decide +kernel
theorem d_Mo_resolve_93 : decode prog_14_method_56_code 93 = .ok (.iload 5, 2) := by decide +kernel
theorem d_Mo_resolve_95 : decode prog_14_method_56_code 95 = .ok (.invokevirtual 270, 3) := by decide +kernel
theorem d_Mo_resolve_98 : decode prog_14_method_56_code 98 = .ok (.ifCond .ne 6, 3) := by decide +kernel
theorem d_Mo_resolve_101 : decode prog_14_method_56_code 101 = .ok (.bipush (-2), 2) := by decide +kernel
theorem d_Mo_resolve_103 : decode prog_14_method_56_code 103 = .ok (.ireturn, 1) := by decide +kernel
theorem d_Mo_resolve_104 : decode prog_14_method_56_code 104 = .ok (.goto (-87), 3) := by decide +kernel
theorem d_Mo_resolve_107 : decode prog_14_method_56_code 107 = .ok (.aload_n 0, 1) := by decide +kernel
theorem d_Mo_resolve_108 : decode prog_14_method_56_code 108 = .ok (.getfield 261, 3) := by decide +kernel
theorem d_Mo_resolve_111 : decode prog_14_method_56_code 111 = .ok (.ireturn, 1) := by decide +kernel
theorem d_Mo_read_0 : decode prog_14_method_53_code 0 = .ok (.aload_n 0, 1) := by decide +kernel
theorem d_Mo_read_1 : decode prog_14_method_53_code 1 = .ok (.getfield 165, 3) := by decide +kernel
theorem d_Mo_read_4 : decode prog_14_method_53_code 4 = .ok (.ifCond .eq 6, 3) := by decide +kernel
theorem d_Mo_read_7 : decode prog_14_method_53_code 7 = .ok (.bipush (-4), 2) := by decide +kernel
theorem d_Mo_read_9 : decode prog_14_method_53_code 9 = .ok (.ireturn, 1) := by decide +kernel
theorem d_Mo_read_10 : decode prog_14_method_53_code 10 = .ok (.aload_n 0, 1) := by decide +kernel
theorem d_Mo_read_11 : decode prog_14_method_53_code 11 = .ok (.iconst 0, 1) := by decide +kernel
theorem d_Mo_read_12 : decode prog_14_method_53_code 12 = .ok (.putfield 177, 3) := by decide +kernel
theorem d_Mo_read_15 : decode prog_14_method_53_code 15 = .ok (.iload_n 1, 1) := by decide +kernel
theorem d_Mo_read_16 : decode prog_14_method_53_code 16 = .ok (.invokestatic 193, 3) := by decide +kernel
theorem d_Mo_read_19 : decode prog_14_method_53_code 19 = .ok (.ifCond .ne 33, 3) := by decide +kernel
theorem d_Mo_read_22 : decode prog_14_method_53_code 22 = .ok (.aload_n 0, 1) := by decide +kernel
theorem d_Mo_read_23 : decode prog_14_method_53_code 23 = .ok (.iload_n 3, 1) := by decide +kernel
theorem d_Mo_read_24 : decode prog_14_method_53_code 24 = .ok (.invokevirtual 92, 3) := by decide +kernel
theorem d_Mo_read_27 : decode prog_14_method_53_code 27 = .ok (.ifCond .ne 25, 3) := by decide +kernel
theorem d_Mo_read_30 : decode prog_14_method_53_code 30 = .ok (.aload_n 0, 1) := by decide +kernel
theorem d_Mo_read_31 : decode prog_14_method_53_code 31 = .ok (.iload_n 1, 1) := by decide +kernel
theorem d_Mo_read_32 : decode prog_14_method_53_code 32 = .ok (.iload_n 3, 1) := by decide +kernel
theorem d_Mo_read_33 : decode prog_14_method_53_code 33 = .ok (.invokevirtual 196, 3) := by decide +kernel
theorem d_Mo_read_36 : decode prog_14_method_53_code 36 = .ok (.ifCond .eq 16, 3) := by decide +kernel
theorem d_Mo_read_39 : decode prog_14_method_53_code 39 = .ok (.iload_n 2, 1) := by decide +kernel
theorem d_Mo_read_40 : decode prog_14_method_53_code 40 = .ok (.ifCond .lt 12, 3) := by decide +kernel
theorem d_Mo_read_43 : decode prog_14_method_53_code 43 = .ok (.iload_n 2, 1) := by decide +kernel
theorem d_Mo_read_44 : decode prog_14_method_53_code 44 = .ok (.aload_n 0, 1) := by decide +kernel
theorem d_Mo_read_45 : decode prog_14_method_53_code 45 = .ok (.iload_n 1, 1) := by decide +kernel
theorem d_Mo_read_46 : decode prog_14_method_53_code 46 = .ok (.invokevirtual 228, 3) := by decide +kernel
theorem d_Mo_read_49 : decode prog_14_method_53_code 49 = .ok (.if_icmp .lt 5, 3) := by decide +kernel
theorem d_Mo_read_52 : decode prog_14_method_53_code 52 = .ok (.iconst (-1), 1) := by decide +kernel
theorem d_Mo_read_53 : decode prog_14_method_53_code 53 = .ok (.ireturn, 1) := by decide +kernel
theorem d_Mo_read_54 : decode prog_14_method_53_code 54 = .ok (.aload_n 0, 1) := by decide +kernel
theorem d_Mo_read_55 : decode prog_14_method_53_code 55 = .ok (.iload_n 1, 1) := by decide +kernel
theorem d_Mo_read_56 : decode prog_14_method_53_code 56 = .ok (.iload_n 2, 1) := by decide +kernel
theorem d_Mo_read_57 : decode prog_14_method_53_code 57 = .ok (.invokevirtual 252, 3) := by decide +kernel
theorem d_Mo_read_60 : decode prog_14_method_53_code 60 = .ok (.istore 4, 2) := by decide +kernel
theorem d_Mo_read_62 : decode prog_14_method_53_code 62 = .ok (.aload_n 0, 1) := by decide +kernel
theorem d_Mo_read_63 : decode prog_14_method_53_code 63 = .ok (.iload 4, 2) := by decide +kernel
theorem d_Mo_read_65 : decode prog_14_method_53_code 65 = .ok (.iload_n 3, 1) := by decide +kernel
theorem d_Mo_read_66 : decode prog_14_method_53_code 66 = .ok (.invokevirtual 255, 3) := by decide +kernel
theorem d_Mo_read_69 : decode prog_14_method_53_code 69 = .ok (.istore 5, 2) := by decide +kernel
theorem d_Mo_read_71 : decode prog_14_method_53_code 71 = .ok (.aload_n 0, 1) := by decide +kernel
theorem d_Mo_read_72 : decode prog_14_method_53_code 72 = .ok (.iload 5, 2) := by decide +kernel
theorem d_Mo_read_74 : decode prog_14_method_53_code 74 = .ok (.bipush 40, 2) := by decide +kernel
theorem d_Mo_read_76 : decode prog_14_method_53_code 76 = .ok (.if_icmp .gt 8, 3) := by decide +kernel
theorem d_Mo_read_79 : decode prog_14_method_53_code 79 = .ok (.iload 5, 2) := by decide +kernel
theorem d_Mo_read_81 : decode prog_14_method_53_code 81 = .ok (.ifCond .ge 7, 3) := by decide +kernel
theorem d_Mo_read_84 : decode prog_14_method_53_code 84 = .ok (.iconst 0, 1) := by decide +kernel
theorem d_Mo_read_85 : decode prog_14_method_53_code 85 = .ok (.goto 5, 3) := by decide +kernel
theorem d_Mo_read_88 : decode prog_14_method_53_code 88 = .ok (.iload 5, 2) := by decide +kernel
theorem d_Mo_read_90 : decode prog_14_method_53_code 90 = .ok (.putfield 177, 3) := by decide +kernel
theorem d_Mo_read_93 : decode prog_14_method_53_code 93 = .ok (.iload 5, 2) := by decide +kernel
theorem d_Mo_read_95 : decode prog_14_method_53_code 95 = .ok (.bipush 40, 2) := by decide +kernel
theorem d_Mo_read_97 : decode prog_14_method_53_code 97 = .ok (.if_icmp .le 8, 3) := by decide +kernel
theorem d_Mo_read_100 : decode prog_14_method_53_code 100 = .ok (.bipush (-3), 2) := by decide +kernel
theorem d_Mo_read_102 : decode prog_14_method_53_code 102 = .ok (.goto 5, 3) := by decide +kernel
theorem d_Mo_read_105 : decode prog_14_method_53_code 105 = .ok (.iload 5, 2) := by decide +kernel
theorem d_Mo_read_107 : decode prog_14_method_53_code 107 = .ok (.ireturn, 1) := by decide +kernel
theorem d_Mo_number_0 : decode prog_14_method_63_code 0 = .ok (.iload_n 1, 1) := by decide +kernel
theorem d_Mo_number_1 : decode prog_14_method_63_code 1 = .ok (.ifCond .lt 20, 3) := by decide +kernel
theorem d_Mo_number_4 : decode prog_14_method_63_code 4 = .ok (.iload_n 1, 1) := by decide +kernel
theorem d_Mo_number_5 : decode prog_14_method_63_code 5 = .ok (.aload_n 0, 1) := by decide +kernel
theorem d_Mo_number_6 : decode prog_14_method_63_code 6 = .ok (.getfield 177, 3) := by decide +kernel
theorem d_Mo_number_9 : decode prog_14_method_63_code 9 = .ok (.if_icmp .ge 12, 3) := by decide +kernel
theorem d_Mo_number_12 : decode prog_14_method_63_code 12 = .ok (.aload_n 0, 1) := by decide +kernel
theorem d_Mo_number_13 : decode prog_14_method_63_code 13 = .ok (.getfield 57, 3) := by decide +kernel
theorem d_Mo_number_16 : decode prog_14_method_63_code 16 = .ok (.iload_n 1, 1) := by decide +kernel
theorem d_Mo_number_17 : decode prog_14_method_63_code 17 = .ok (.laload, 1) := by decide +kernel
theorem d_Mo_number_18 : decode prog_14_method_63_code 18 = .ok (.goto 4, 3) := by decide +kernel
theorem d_Mo_number_21 : decode prog_14_method_63_code 21 = .ok (.lconst 0, 1) := by decide +kernel
theorem d_Mo_number_22 : decode prog_14_method_63_code 22 = .ok (.lreturn, 1) := by decide +kernel
theorem d_Mo_octet_0 : decode prog_14_method_64_code 0 = .ok (.iload_n 1, 1) := by decide +kernel
theorem d_Mo_octet_1 : decode prog_14_method_64_code 1 = .ok (.ifCond .lt 19, 3) := by decide +kernel
theorem d_Mo_octet_4 : decode prog_14_method_64_code 4 = .ok (.iload_n 1, 1) := by decide +kernel
theorem d_Mo_octet_5 : decode prog_14_method_64_code 5 = .ok (.bipush 39, 2) := by decide +kernel
theorem d_Mo_octet_7 : decode prog_14_method_64_code 7 = .ok (.if_icmp .gt 13, 3) := by decide +kernel
theorem d_Mo_octet_10 : decode prog_14_method_64_code 10 = .ok (.iload_n 2, 1) := by decide +kernel
theorem d_Mo_octet_11 : decode prog_14_method_64_code 11 = .ok (.ifCond .lt 9, 3) := by decide +kernel
theorem d_Mo_octet_14 : decode prog_14_method_64_code 14 = .ok (.iload_n 2, 1) := by decide +kernel
theorem d_Mo_octet_15 : decode prog_14_method_64_code 15 = .ok (.bipush 31, 2) := by decide +kernel
theorem d_Mo_octet_17 : decode prog_14_method_64_code 17 = .ok (.if_icmp .le 7, 3) := by decide +kernel
theorem d_Mo_octet_20 : decode prog_14_method_64_code 20 = .ok (.iconst (-1), 1) := by decide +kernel
theorem d_Mo_octet_21 : decode prog_14_method_64_code 21 = .ok (.goto 14, 3) := by decide +kernel
theorem d_Mo_octet_24 : decode prog_14_method_64_code 24 = .ok (.aload_n 0, 1) := by decide +kernel
theorem d_Mo_octet_25 : decode prog_14_method_64_code 25 = .ok (.getfield 48, 3) := by decide +kernel
theorem d_Mo_octet_28 : decode prog_14_method_64_code 28 = .ok (.bipush 32, 2) := by decide +kernel
theorem d_Mo_octet_30 : decode prog_14_method_64_code 30 = .ok (.iload_n 1, 1) := by decide +kernel
theorem d_Mo_octet_31 : decode prog_14_method_64_code 31 = .ok (.imul, 1) := by decide +kernel
theorem d_Mo_octet_32 : decode prog_14_method_64_code 32 = .ok (.iload_n 2, 1) := by decide +kernel
theorem d_Mo_octet_33 : decode prog_14_method_64_code 33 = .ok (.iadd, 1) := by decide +kernel
theorem d_Mo_octet_34 : decode prog_14_method_64_code 34 = .ok (.iaload, 1) := by decide +kernel
theorem d_Mo_octet_35 : decode prog_14_method_64_code 35 = .ok (.ireturn, 1) := by decide +kernel
theorem d_Mo_limit_0 : decode prog_14_method_65_code 0 = .ok (.aload_n 0, 1) := by decide +kernel
theorem d_Mo_limit_1 : decode prog_14_method_65_code 1 = .ok (.getfield 165, 3) := by decide +kernel
theorem d_Mo_limit_4 : decode prog_14_method_65_code 4 = .ok (.ifCond .eq 6, 3) := by decide +kernel
theorem d_Mo_limit_7 : decode prog_14_method_65_code 7 = .ok (.bipush (-4), 2) := by decide +kernel
theorem d_Mo_limit_9 : decode prog_14_method_65_code 9 = .ok (.ireturn, 1) := by decide +kernel
theorem d_Mo_limit_10 : decode prog_14_method_65_code 10 = .ok (.iload_n 1, 1) := by decide +kernel
theorem d_Mo_limit_11 : decode prog_14_method_65_code 11 = .ok (.ifCond .ge 5, 3) := by decide +kernel
theorem d_Mo_limit_14 : decode prog_14_method_65_code 14 = .ok (.iconst (-1), 1) := by decide +kernel
theorem d_Mo_limit_15 : decode prog_14_method_65_code 15 = .ok (.ireturn, 1) := by decide +kernel
theorem d_Mo_limit_16 : decode prog_14_method_65_code 16 = .ok (.aload_n 0, 1) := by decide +kernel
theorem d_Mo_limit_17 : decode prog_14_method_65_code 17 = .ok (.iconst 1, 1) := by decide +kernel
theorem d_Mo_limit_18 : decode prog_14_method_65_code 18 = .ok (.putfield 158, 3) := by decide +kernel
theorem d_Mo_limit_21 : decode prog_14_method_65_code 21 = .ok (.aload_n 0, 1) := by decide +kernel
theorem d_Mo_limit_22 : decode prog_14_method_65_code 22 = .ok (.iload_n 1, 1) := by decide +kernel
theorem d_Mo_limit_23 : decode prog_14_method_65_code 23 = .ok (.putfield 162, 3) := by decide +kernel
theorem d_Mo_limit_26 : decode prog_14_method_65_code 26 = .ok (.iconst 0, 1) := by decide +kernel
theorem d_Mo_limit_27 : decode prog_14_method_65_code 27 = .ok (.ireturn, 1) := by decide +kernel
theorem d_Mo_restart_0 : decode prog_14_method_66_code 0 = .ok (.aload_n 0, 1) := by decide +kernel
theorem d_Mo_restart_1 : decode prog_14_method_66_code 1 = .ok (.getfield 165, 3) := by decide +kernel
theorem d_Mo_restart_4 : decode prog_14_method_66_code 4 = .ok (.ifCond .ne 5, 3) := by decide +kernel
theorem d_Mo_restart_7 : decode prog_14_method_66_code 7 = .ok (.iconst 0, 1) := by decide +kernel
theorem d_Mo_restart_8 : decode prog_14_method_66_code 8 = .ok (.ireturn, 1) := by decide +kernel
theorem d_Mo_restart_9 : decode prog_14_method_66_code 9 = .ok (.aload_n 0, 1) := by decide +kernel
theorem d_Mo_restart_10 : decode prog_14_method_66_code 10 = .ok (.iconst 0, 1) := by decide +kernel
theorem d_Mo_restart_11 : decode prog_14_method_66_code 11 = .ok (.putfield 165, 3) := by decide +kernel
theorem d_Mo_restart_14 : decode prog_14_method_66_code 14 = .ok (.iconst 1, 1) := by decide +kernel
theorem d_Mo_restart_15 : decode prog_14_method_66_code 15 = .ok (.ireturn, 1) := by decide +kernel
theorem d_Mo_writes_0 : decode prog_14_method_67_code 0 = .ok (.aload_n 0, 1) := by decide +kernel
theorem d_Mo_writes_1 : decode prog_14_method_67_code 1 = .ok (.getfield 180, 3) := by decide +kernel
theorem d_Mo_writes_4 : decode prog_14_method_67_code 4 = .ok (.ireturn, 1) := by decide +kernel
