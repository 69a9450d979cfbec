theorem d_Mo_files_25 : decode jM_Mo_files.2.1 25 = .ok (.iconst 0, 1) := by decide +kernel
theorem d_Mo_files_26 : decode jM_Mo_files.2.1 26 = .ok (.iaload, 1) := by decide +kernel
theorem d_Mo_files_27 : decode jM_Mo_files.2.1 27 = .ok (.if_icmp .ge 26, 3) := by decide +kernel
theorem d_Mo_files_30 : decode jM_Mo_files.2.1 30 = .ok (.iload_n 2, 1) := by decide +kernel
theorem d_Mo_files_31 : decode jM_Mo_files.2.1 31 = .ok (.aload_n 0, 1) := by decide +kernel
theorem d_Mo_files_32 : decode jM_Mo_files.2.1 32 = .ok (.iload_n 3, 1) := by decide +kernel
theorem d_Mo_files_33 : decode jM_Mo_files.2.1 33 = .ok (.invokevirtual 231, 3) := by decide +kernel
theorem d_Mo_files_36 : decode jM_Mo_files.2.1 36 = .ok (.iload_n 1, 1) := by decide +kernel
theorem d_Mo_files_37 : decode jM_Mo_files.2.1 37 = .ok (.if_icmp .ne 7, 3) := by decide +kernel
theorem d_Mo_files_40 : decode jM_Mo_files.2.1 40 = .ok (.iconst 1, 1) := by decide +kernel
theorem d_Mo_files_41 : decode jM_Mo_files.2.1 41 = .ok (.goto 4, 3) := by decide +kernel
theorem d_Mo_files_44 : decode jM_Mo_files.2.1 44 = .ok (.iconst 0, 1) := by decide +kernel
theorem d_Mo_files_45 : decode jM_Mo_files.2.1 45 = .ok (.iadd, 1) := by decide +kernel
theorem d_Mo_files_46 : decode jM_Mo_files.2.1 46 = .ok (.istore_n 2, 1) := by decide +kernel
theorem d_Mo_files_47 : decode jM_Mo_files.2.1 47 = .ok (.iinc 3 1, 3) := by decide +kernel
theorem d_Mo_files_50 : decode jM_Mo_files.2.1 50 = .ok (.goto (-30), 3) := by decide +kernel
theorem d_Mo_files_53 : decode jM_Mo_files.2.1 53 = .ok (.iload_n 2, 1) := by decide +kernel
theorem d_Mo_files_54 : decode jM_Mo_files.2.1 54 = .ok (.ireturn, 1) := by decide +kernel
theorem d_Mo_fetch_0 : decode jM_Mo_fetch.2.1 0 = .ok (.iload_n 2, 1) := by decide +kernel
theorem d_Mo_fetch_1 : decode jM_Mo_fetch.2.1 1 = .ok (.istore_n 3, 1) := by decide +kernel
theorem d_Mo_fetch_2 : decode jM_Mo_fetch.2.1 2 = .ok (.iconst 0, 1) := by decide +kernel
theorem d_Mo_fetch_3 : decode jM_Mo_fetch.2.1 3 = .ok (.istore 4, 2) := by decide +kernel
theorem d_Mo_fetch_5 : decode jM_Mo_fetch.2.1 5 = .ok (.aload_n 0, 1) := by decide +kernel
theorem d_Mo_fetch_6 : decode jM_Mo_fetch.2.1 6 = .ok (.iload 4, 2) := by decide +kernel
theorem d_Mo_fetch_8 : decode jM_Mo_fetch.2.1 8 = .ok (.invokevirtual 231, 3) := by decide +kernel
theorem d_Mo_fetch_11 : decode jM_Mo_fetch.2.1 11 = .ok (.iload_n 1, 1) := by decide +kernel
theorem d_Mo_fetch_12 : decode jM_Mo_fetch.2.1 12 = .ok (.if_icmp .ne 13, 3) := by decide +kernel
theorem d_Mo_fetch_15 : decode jM_Mo_fetch.2.1 15 = .ok (.iload_n 3, 1) := by decide +kernel
theorem d_Mo_fetch_16 : decode jM_Mo_fetch.2.1 16 = .ok (.aload_n 0, 1) := by decide +kernel
theorem d_Mo_fetch_17 : decode jM_Mo_fetch.2.1 17 = .ok (.iload 4, 2) := by decide +kernel
theorem d_Mo_fetch_19 : decode jM_Mo_fetch.2.1 19 = .ok (.invokevirtual 237, 3) := by decide +kernel
theorem d_Mo_fetch_22 : decode jM_Mo_fetch.2.1 22 = .ok (.if_icmp .lt 32, 3) := by decide +kernel
theorem d_Mo_fetch_25 : decode jM_Mo_fetch.2.1 25 = .ok (.iload_n 3, 1) := by decide +kernel
theorem d_Mo_fetch_26 : decode jM_Mo_fetch.2.1 26 = .ok (.aload_n 0, 1) := by decide +kernel
theorem d_Mo_fetch_27 : decode jM_Mo_fetch.2.1 27 = .ok (.iload 4, 2) := by decide +kernel
theorem d_Mo_fetch_29 : decode jM_Mo_fetch.2.1 29 = .ok (.invokevirtual 231, 3) := by decide +kernel
theorem d_Mo_fetch_32 : decode jM_Mo_fetch.2.1 32 = .ok (.iload_n 1, 1) := by decide +kernel
theorem d_Mo_fetch_33 : decode jM_Mo_fetch.2.1 33 = .ok (.if_icmp .ne 12, 3) := by decide +kernel
theorem d_Mo_fetch_36 : decode jM_Mo_fetch.2.1 36 = .ok (.aload_n 0, 1) := by decide +kernel
theorem d_Mo_fetch_37 : decode jM_Mo_fetch.2.1 37 = .ok (.iload 4, 2) := by decide +kernel
theorem d_Mo_fetch_39 : decode jM_Mo_fetch.2.1 39 = .ok (.invokevirtual 237, 3) := by decide +kernel
theorem d_Mo_fetch_42 : decode jM_Mo_fetch.2.1 42 = .ok (.goto 4, 3) := by decide +kernel
theorem d_Mo_fetch_45 : decode jM_Mo_fetch.2.1 45 = .ok (.iconst 0, 1) := by decide +kernel
theorem d_Mo_fetch_46 : decode jM_Mo_fetch.2.1 46 = .ok (.isub, 1) := by decide +kernel
theorem d_Mo_fetch_47 : decode jM_Mo_fetch.2.1 47 = .ok (.istore_n 3, 1) := by decide +kernel
theorem d_Mo_fetch_48 : decode jM_Mo_fetch.2.1 48 = .ok (.iinc 4 1, 3) := by decide +kernel
theorem d_Mo_fetch_51 : decode jM_Mo_fetch.2.1 51 = .ok (.goto (-46), 3) := by decide +kernel
theorem d_Mo_fetch_54 : decode jM_Mo_fetch.2.1 54 = .ok (.aload_n 0, 1) := by decide +kernel
theorem d_Mo_fetch_55 : decode jM_Mo_fetch.2.1 55 = .ok (.aload_n 0, 1) := by decide +kernel
theorem d_Mo_fetch_56 : decode jM_Mo_fetch.2.1 56 = .ok (.iload 4, 2) := by decide +kernel
theorem d_Mo_fetch_58 : decode jM_Mo_fetch.2.1 58 = .ok (.invokevirtual 186, 3) := by decide +kernel
theorem d_Mo_fetch_61 : decode jM_Mo_fetch.2.1 61 = .ok (.iconst 5, 1) := by decide +kernel
theorem d_Mo_fetch_62 : decode jM_Mo_fetch.2.1 62 = .ok (.iadd, 1) := by decide +kernel
theorem d_Mo_fetch_63 : decode jM_Mo_fetch.2.1 63 = .ok (.putfield 148, 3) := by decide +kernel
theorem d_Mo_fetch_66 : decode jM_Mo_fetch.2.1 66 = .ok (.aload_n 0, 1) := by decide +kernel
theorem d_Mo_fetch_67 : decode jM_Mo_fetch.2.1 67 = .ok (.iload 4, 2) := by decide +kernel
theorem d_Mo_fetch_69 : decode jM_Mo_fetch.2.1 69 = .ok (.invokevirtual 234, 3) := by decide +kernel
theorem d_Mo_fetch_72 : decode jM_Mo_fetch.2.1 72 = .ok (.istore 5, 2) := by decide +kernel
theorem d_Mo_fetch_74 : decode jM_Mo_fetch.2.1 74 = .ok (.aload_n 0, 1) := by decide +kernel
theorem d_Mo_fetch_75 : decode jM_Mo_fetch.2.1 75 = .ok (.iload 5, 2) := by decide +kernel
theorem d_Mo_fetch_77 : decode jM_Mo_fetch.2.1 77 = .ok (.invokevirtual 249, 3) := by decide +kernel
theorem d_Mo_fetch_80 : decode jM_Mo_fetch.2.1 80 = .ok (.istore 6, 2) := by decide +kernel
theorem d_Mo_fetch_82 : decode jM_Mo_fetch.2.1 82 = .ok (.iconst 0, 1) := by decide +kernel
theorem d_Mo_fetch_83 : decode jM_Mo_fetch.2.1 83 = .ok (.istore 7, 2) := by decide +kernel
theorem d_Mo_fetch_85 : decode jM_Mo_fetch.2.1 85 = .ok (.iload 7, 2) := by decide +kernel
theorem d_Mo_fetch_87 : decode jM_Mo_fetch.2.1 87 = .ok (.iload_n 3, 1) := by decide +kernel
theorem d_Mo_fetch_88 : decode jM_Mo_fetch.2.1 88 = .ok (.if_icmp .ge 17, 3) := by decide +kernel
theorem d_Mo_fetch_91 : decode jM_Mo_fetch.2.1 91 = .ok (.aload_n 0, 1) := by decide +kernel
theorem d_Mo_fetch_92 : decode jM_Mo_fetch.2.1 92 = .ok (.iload 5, 2) := by decide +kernel
theorem d_Mo_fetch_94 : decode jM_Mo_fetch.2.1 94 = .ok (.invokevirtual 249, 3) := by decide +kernel
theorem d_Mo_fetch_97 : decode jM_Mo_fetch.2.1 97 = .ok (.istore 6, 2) := by decide +kernel
theorem d_Mo_fetch_99 : decode jM_Mo_fetch.2.1 99 = .ok (.iinc 7 1, 3) := by decide +kernel
theorem d_Mo_fetch_102 : decode jM_Mo_fetch.2.1 102 = .ok (.goto (-17), 3) := by decide +kernel
theorem d_Mo_fetch_105 : decode jM_Mo_fetch.2.1 105 = .ok (.iload 5, 2) := by decide +kernel
theorem d_Mo_fetch_107 : decode jM_Mo_fetch.2.1 107 = .ok (.ireturn, 1) := by decide +kernel
theorem d_Mo_add_0 : decode jM_Mo_add.2.1 0 = .ok (.aload_n 0, 1) := by decide +kernel
theorem d_Mo_add_1 : decode jM_Mo_add.2.1 1 = .ok (.getfield 72, 3) := by decide +kernel
theorem d_Mo_add_4 : decode jM_Mo_add.2.1 4 = .ok (.iconst 3, 1) := by decide +kernel
theorem d_Mo_add_5 : decode jM_Mo_add.2.1 5 = .ok (.aload_n 0, 1) := by decide +kernel
theorem d_Mo_add_6 : decode jM_Mo_add.2.1 6 = .ok (.getfield 258, 3) := by decide +kernel
theorem d_Mo_add_9 : decode jM_Mo_add.2.1 9 = .ok (.imul, 1) := by decide +kernel
theorem d_Mo_add_10 : decode jM_Mo_add.2.1 10 = .ok (.iload_n 1, 1) := by decide +kernel
theorem d_Mo_add_11 : decode jM_Mo_add.2.1 11 = .ok (.iastore, 1) := by decide +kernel
theorem d_Mo_add_12 : decode jM_Mo_add.2.1 12 = .ok (.aload_n 0, 1) := by decide +kernel
theorem d_Mo_add_13 : decode jM_Mo_add.2.1 13 = .ok (.getfield 72, 3) := by decide +kernel
theorem d_Mo_add_16 : decode jM_Mo_add.2.1 16 = .ok (.iconst 3, 1) := by decide +kernel
theorem d_Mo_add_17 : decode jM_Mo_add.2.1 17 = .ok (.aload_n 0, 1) := by decide +kernel
theorem d_Mo_add_18 : decode jM_Mo_add.2.1 18 = .ok (.getfield 258, 3) := by decide +kernel
theorem d_Mo_add_21 : decode jM_Mo_add.2.1 21 = .ok (.imul, 1) := by decide +kernel
theorem d_Mo_add_22 : decode jM_Mo_add.2.1 22 = .ok (.iconst 1, 1) := by decide +kernel
theorem d_Mo_add_23 : decode jM_Mo_add.2.1 23 = .ok (.iadd, 1) := by decide +kernel
theorem d_Mo_add_24 : decode jM_Mo_add.2.1 24 = .ok (.iload_n 2, 1) := by decide +kernel
theorem d_Mo_add_25 : decode jM_Mo_add.2.1 25 = .ok (.iastore, 1) := by decide +kernel
theorem d_Mo_add_26 : decode jM_Mo_add.2.1 26 = .ok (.aload_n 0, 1) := by decide +kernel
theorem d_Mo_add_27 : decode jM_Mo_add.2.1 27 = .ok (.getfield 72, 3) := by decide +kernel
theorem d_Mo_add_30 : decode jM_Mo_add.2.1 30 = .ok (.iconst 3, 1) := by decide +kernel
theorem d_Mo_add_31 : decode jM_Mo_add.2.1 31 = .ok (.aload_n 0, 1) := by decide +kernel
theorem d_Mo_add_32 : decode jM_Mo_add.2.1 32 = .ok (.getfield 258, 3) := by decide +kernel
theorem d_Mo_add_35 : decode jM_Mo_add.2.1 35 = .ok (.imul, 1) := by decide +kernel
theorem d_Mo_add_36 : decode jM_Mo_add.2.1 36 = .ok (.iconst 2, 1) := by decide +kernel
theorem d_Mo_add_37 : decode jM_Mo_add.2.1 37 = .ok (.iadd, 1) := by decide +kernel
theorem d_Mo_add_38 : decode jM_Mo_add.2.1 38 = .ok (.iload_n 3, 1) := by decide +kernel
theorem d_Mo_add_39 : decode jM_Mo_add.2.1 39 = .ok (.iastore, 1) := by decide +kernel
theorem d_Mo_add_40 : decode jM_Mo_add.2.1 40 = .ok (.aload_n 0, 1) := by decide +kernel
theorem d_Mo_add_41 : decode jM_Mo_add.2.1 41 = .ok (.dup, 1) := by decide +kernel
theorem d_Mo_add_42 : decode jM_Mo_add.2.1 42 = .ok (.getfield 258, 3) := by decide +kernel
theorem d_Mo_add_45 : decode jM_Mo_add.2.1 45 = .ok (.iconst 1, 1) := by decide +kernel
theorem d_Mo_add_46 : decode jM_Mo_add.2.1 46 = .ok (.iadd, 1) := by decide +kernel
theorem d_Mo_add_47 : decode jM_Mo_add.2.1 47 = .ok (.putfield 258, 3) := by decide +kernel
theorem d_Mo_add_50 : decode jM_Mo_add.2.1 50 = .ok (.return_, 1) := by decide +kernel
theorem d_Mo_give1_0 : decode jM_Mo_give1.2.1 0 = .ok (.aload_n 0, 1) := by decide +kernel
theorem d_Mo_give1_1 : decode jM_Mo_give1.2.1 1 = .ok (.getfield 261, 3) := by decide +kernel
theorem d_Mo_give1_4 : decode jM_Mo_give1.2.1 4 = .ok (.bipush 40, 2) := by decide +kernel
theorem d_Mo_give1_6 : decode jM_Mo_give1.2.1 6 = .ok (.if_icmp .ge 13, 3) := by decide +kernel
theorem d_Mo_give1_9 : decode jM_Mo_give1.2.1 9 = .ok (.aload_n 0, 1) := by decide +kernel
theorem d_Mo_give1_10 : decode jM_Mo_give1.2.1 10 = .ok (.getfield 57, 3) := by decide +kernel
theorem d_Mo_give1_13 : decode jM_Mo_give1.2.1 13 = .ok (.aload_n 0, 1) := by decide +kernel
theorem d_Mo_give1_14 : decode jM_Mo_give1.2.1 14 = .ok (.getfield 261, 3) := by decide +kernel
theorem d_Mo_give1_17 : decode jM_Mo_give1.2.1 17 = .ok (.lload_n 1, 1) := by decide +kernel
theorem d_Mo_give1_18 : decode jM_Mo_give1.2.1 18 = .ok (.lastore, 1) := by decide +kernel
theorem d_Mo_give1_19 : decode jM_Mo_give1.2.1 19 = .ok (.aload_n 0, 1) := by decide +kernel
theorem d_Mo_give1_20 : decode jM_Mo_give1.2.1 20 = .ok (.dup, 1) := by decide +kernel
theorem d_Mo_give1_21 : decode jM_Mo_give1.2.1 21 = .ok (.getfield 261, 3) := by decide +kernel
theorem d_Mo_give1_24 : decode jM_Mo_give1.2.1 24 = .ok (.iconst 1, 1) := by decide +kernel
theorem d_Mo_give1_25 : decode jM_Mo_give1.2.1 25 = .ok (.iadd, 1) := by decide +kernel
theorem d_Mo_give1_26 : decode jM_Mo_give1.2.1 26 = .ok (.putfield 261, 3) := by decide +kernel
theorem d_Mo_give1_29 : decode jM_Mo_give1.2.1 29 = .ok (.return_, 1) := by decide +kernel
theorem d_Mo_defaults_0 : decode jM_Mo_defaults.2.1 0 = .ok (.aload_n 0, 1) := by decide +kernel
theorem d_Mo_defaults_1 : decode jM_Mo_defaults.2.1 1 = .ok (.getfield 31, 3) := by decide +kernel
theorem d_Mo_defaults_4 : decode jM_Mo_defaults.2.1 4 = .ok (.iload_n 1, 1) := by decide +kernel
theorem d_Mo_defaults_5 : decode jM_Mo_defaults.2.1 5 = .ok (.iaload, 1) := by decide +kernel
theorem d_Mo_defaults_6 : decode jM_Mo_defaults.2.1 6 = .ok (.istore_n 2, 1) := by decide +kernel
theorem d_Mo_defaults_7 : decode jM_Mo_defaults.2.1 7 = .ok (.aload_n 0, 1) := by decide +kernel
theorem d_Mo_defaults_8 : decode jM_Mo_defaults.2.1 8 = .ok (.getfield 7, 3) := by decide +kernel
theorem d_Mo_defaults_11 : decode jM_Mo_defaults.2.1 11 = .ok (.iload_n 2, 1) := by decide +kernel
theorem d_Mo_defaults_12 : decode jM_Mo_defaults.2.1 12 = .ok (.iaload, 1) := by decide +kernel
theorem d_Mo_defaults_13 : decode jM_Mo_defaults.2.1 13 = .ok (.bipush 6, 2) := by decide +kernel
theorem d_Mo_defaults_15 : decode jM_Mo_defaults.2.1 15 = .ok (.if_icmp .ne 15, 3) := by decide +kernel
theorem d_Mo_defaults_18 : decode jM_Mo_defaults.2.1 18 = .ok (.aload_n 0, 1) := by decide +kernel
theorem d_Mo_defaults_19 : decode jM_Mo_defaults.2.1 19 = .ok (.lconst 0, 1) := by decide +kernel
theorem d_Mo_defaults_20 : decode jM_Mo_defaults.2.1 20 = .ok (.invokevirtual 273, 3) := by decide +kernel
theorem d_Mo_defaults_23 : decode jM_Mo_defaults.2.1 23 = .ok (.aload_n 0, 1) := by decide +kernel
theorem d_Mo_defaults_24 : decode jM_Mo_defaults.2.1 24 = .ok (.getfield 16, 3) := by decide +kernel
theorem d_Mo_defaults_27 : decode jM_Mo_defaults.2.1 27 = .ok (.iload_n 2, 1) := by decide +kernel
theorem d_Mo_defaults_28 : decode jM_Mo_defaults.2.1 28 = .ok (.iaload, 1) := by decide +kernel
theorem d_Mo_defaults_29 : decode jM_Mo_defaults.2.1 29 = .ok (.istore_n 2, 1) := by decide +kernel
theorem d_Mo_defaults_30 : decode jM_Mo_defaults.2.1 30 = .ok (.aload_n 0, 1) := by decide +kernel
theorem d_Mo_defaults_31 : decode jM_Mo_defaults.2.1 31 = .ok (.getfield 7, 3) := by decide +kernel
theorem d_Mo_defaults_34 : decode jM_Mo_defaults.2.1 34 = .ok (.iload_n 2, 1) := by decide +kernel
theorem d_Mo_defaults_35 : decode jM_Mo_defaults.2.1 35 = .ok (.iaload, 1) := by decide +kernel
theorem d_Mo_defaults_36 : decode jM_Mo_defaults.2.1 36 = .ok (.ifCond .eq 13, 3) := by decide +kernel
theorem d_Mo_defaults_39 : decode jM_Mo_defaults.2.1 39 = .ok (.aload_n 0, 1) := by decide +kernel
theorem d_Mo_defaults_40 : decode jM_Mo_defaults.2.1 40 = .ok (.aload_n 0, 1) := by decide +kernel
theorem d_Mo_defaults_41 : decode jM_Mo_defaults.2.1 41 = .ok (.getfield 38, 3) := by decide +kernel
theorem d_Mo_defaults_44 : decode jM_Mo_defaults.2.1 44 = .ok (.iload_n 1, 1) := by decide +kernel
theorem d_Mo_defaults_45 : decode jM_Mo_defaults.2.1 45 = .ok (.laload, 1) := by decide +kernel
theorem d_Mo_defaults_46 : decode jM_Mo_defaults.2.1 46 = .ok (.invokevirtual 273, 3) := by decide +kernel
theorem d_Mo_defaults_49 : decode jM_Mo_defaults.2.1 49 = .ok (.return_, 1) := by decide +kernel
theorem d_Mo_items_0 : decode jM_Mo_items.2.1 0 = .ok (.aload_n 0, 1) := by decide +kernel
theorem d_Mo_items_1 : decode jM_Mo_items.2.1 1 = .ok (.getfield 66, 3) := by decide +kernel
theorem d_Mo_items_4 : decode jM_Mo_items.2.1 4 = .ok (.iload_n 2, 1) := by decide +kernel
theorem d_Mo_items_5 : decode jM_Mo_items.2.1 5 = .ok (.laload, 1) := by decide +kernel
theorem d_Mo_items_6 : decode jM_Mo_items.2.1 6 = .ok (.l2i, 1) := by decide +kernel
theorem d_Mo_items_7 : decode jM_Mo_items.2.1 7 = .ok (.istore 4, 2) := by decide +kernel
theorem d_Mo_items_9 : decode jM_Mo_items.2.1 9 = .ok (.iload 4, 2) := by decide +kernel
theorem d_Mo_items_11 : decode jM_Mo_items.2.1 11 = .ok (.iconst 1, 1) := by decide +kernel
theorem d_Mo_items_12 : decode jM_Mo_items.2.1 12 = .ok (.isub, 1) := by decide +kernel
theorem d_Mo_items_13 : decode jM_Mo_items.2.1 13 = .ok (.istore 5, 2) := by decide +kernel
theorem d_Mo_items_15 : decode jM_Mo_items.2.1 15 = .ok (.iload 5, 2) := by decide +kernel
theorem d_Mo_items_17 : decode jM_Mo_items.2.1 17 = .ok (.ifCond .lt 67, 3) := by decide +kernel
theorem d_Mo_items_20 : decode jM_Mo_items.2.1 20 = .ok (.iload_n 2, 1) := by decide +kernel
theorem d_Mo_items_21 : decode jM_Mo_items.2.1 21 = .ok (.iconst 1, 1) := by decide +kernel
theorem d_Mo_items_22 : decode jM_Mo_items.2.1 22 = .ok (.iadd, 1) := by decide +kernel
theorem d_Mo_items_23 : decode jM_Mo_items.2.1 23 = .ok (.istore 6, 2) := by decide +kernel
theorem d_Mo_items_25 : decode jM_Mo_items.2.1 25 = .ok (.iconst 0, 1) := by decide +kernel
theorem d_Mo_items_26 : decode jM_Mo_items.2.1 26 = .ok (.istore 7, 2) := by decide +kernel
theorem d_Mo_items_28 : decode jM_Mo_items.2.1 28 = .ok (.iload 7, 2) := by decide +kernel
theorem d_Mo_items_30 : decode jM_Mo_items.2.1 30 = .ok (.iload 5, 2) := by decide +kernel
theorem d_Mo_items_32 : decode jM_Mo_items.2.1 32 = .ok (.if_icmp .ge 28, 3) := by decide +kernel
theorem d_Mo_items_35 : decode jM_Mo_items.2.1 35 = .ok (.iload 6, 2) := by decide +kernel
theorem d_Mo_items_37 : decode jM_Mo_items.2.1 37 = .ok (.aload_n 0, 1) := by decide +kernel
theorem d_Mo_items_38 : decode jM_Mo_items.2.1 38 = .ok (.aload_n 0, 1) := by decide +kernel
theorem d_Mo_items_39 : decode jM_Mo_items.2.1 39 = .ok (.getfield 16, 3) := by decide +kernel
theorem d_Mo_items_42 : decode jM_Mo_items.2.1 42 = .ok (.iload_n 1, 1) := by decide +kernel
theorem d_Mo_items_43 : decode jM_Mo_items.2.1 43 = .ok (.iaload, 1) := by decide +kernel
theorem d_Mo_items_44 : decode jM_Mo_items.2.1 44 = .ok (.iload 6, 2) := by decide +kernel
theorem d_Mo_items_46 : decode jM_Mo_items.2.1 46 = .ok (.bipush 24, 2) := by decide +kernel
theorem d_Mo_items_48 : decode jM_Mo_items.2.1 48 = .ok (.invokevirtual 205, 3) := by decide +kernel
theorem d_Mo_items_51 : decode jM_Mo_items.2.1 51 = .ok (.iadd, 1) := by decide +kernel
theorem d_Mo_items_52 : decode jM_Mo_items.2.1 52 = .ok (.istore 6, 2) := by decide +kernel
theorem d_Mo_items_54 : decode jM_Mo_items.2.1 54 = .ok (.iinc 7 1, 3) := by decide +kernel
theorem d_Mo_items_57 : decode jM_Mo_items.2.1 57 = .ok (.goto (-29), 3) := by decide +kernel
theorem d_Mo_items_60 : decode jM_Mo_items.2.1 60 = .ok (.aload_n 0, 1) := by decide +kernel
theorem d_Mo_items_61 : decode jM_Mo_items.2.1 61 = .ok (.aload_n 0, 1) := by decide +kernel
theorem d_Mo_items_62 : decode jM_Mo_items.2.1 62 = .ok (.getfield 16, 3) := by decide +kernel
theorem d_Mo_items_65 : decode jM_Mo_items.2.1 65 = .ok (.iload_n 1, 1) := by decide +kernel
theorem d_Mo_items_66 : decode jM_Mo_items.2.1 66 = .ok (.iaload, 1) := by decide +kernel
theorem d_Mo_items_67 : decode jM_Mo_items.2.1 67 = .ok (.iload 6, 2) := by decide +kernel
theorem d_Mo_items_69 : decode jM_Mo_items.2.1 69 = .ok (.aload_n 0, 1) := by decide +kernel
theorem d_Mo_items_70 : decode jM_Mo_items.2.1 70 = .ok (.getfield 16, 3) := by decide +kernel
theorem d_Mo_items_73 : decode jM_Mo_items.2.1 73 = .ok (.iload_n 3, 1) := by decide +kernel
theorem d_Mo_items_74 : decode jM_Mo_items.2.1 74 = .ok (.iaload, 1) := by decide +kernel
theorem d_Mo_items_75 : decode jM_Mo_items.2.1 75 = .ok (.invokevirtual 264, 3) := by decide +kernel
theorem d_Mo_items_78 : decode jM_Mo_items.2.1 78 = .ok (.iinc 5 (-1), 3) := by decide +kernel
theorem d_Mo_items_81 : decode jM_Mo_items.2.1 81 = .ok (.goto (-66), 3) := by decide +kernel
theorem d_Mo_items_84 : decode jM_Mo_items.2.1 84 = .ok (.return_, 1) := by decide +kernel
theorem d_Mo_placeOf_0 : decode jM_Mo_placeOf.2.1 0 = .ok (.iload_n 2, 1) := by decide +kernel
theorem d_Mo_placeOf_1 : decode jM_Mo_placeOf.2.1 1 = .ok (.istore 4, 2) := by decide +kernel
theorem d_Mo_placeOf_3 : decode jM_Mo_placeOf.2.1 3 = .ok (.iconst 3, 1) := by decide +kernel
theorem d_Mo_placeOf_4 : decode jM_Mo_placeOf.2.1 4 = .ok (.iload_n 1, 1) := by decide +kernel
theorem d_Mo_placeOf_5 : decode jM_Mo_placeOf.2.1 5 = .ok (.imul, 1) := by decide +kernel
theorem d_Mo_placeOf_6 : decode jM_Mo_placeOf.2.1 6 = .ok (.istore 5, 2) := by decide +kernel
theorem d_Mo_placeOf_8 : decode jM_Mo_placeOf.2.1 8 = .ok (.iload 5, 2) := by decide +kernel
theorem d_Mo_placeOf_10 : decode jM_Mo_placeOf.2.1 10 = .ok (.iload_n 3, 1) := by decide +kernel
theorem d_Mo_placeOf_11 : decode jM_Mo_placeOf.2.1 11 = .ok (.if_icmp .ge 29, 3) := by decide +kernel
theorem d_Mo_placeOf_14 : decode jM_Mo_placeOf.2.1 14 = .ok (.iload 4, 2) := by decide +kernel
theorem d_Mo_placeOf_16 : decode jM_Mo_placeOf.2.1 16 = .ok (.aload_n 0, 1) := by decide +kernel
theorem d_Mo_placeOf_17 : decode jM_Mo_placeOf.2.1 17 = .ok (.aload_n 0, 1) := by decide +kernel
theorem d_Mo_placeOf_18 : decode jM_Mo_placeOf.2.1 18 = .ok (.getfield 31, 3) := by decide +kernel
theorem d_Mo_placeOf_21 : decode jM_Mo_placeOf.2.1 21 = .ok (.iload 5, 2) := by decide +kernel
theorem d_Mo_placeOf_23 : decode jM_Mo_placeOf.2.1 23 = .ok (.iaload, 1) := by decide +kernel
theorem d_Mo_placeOf_24 : decode jM_Mo_placeOf.2.1 24 = .ok (.iload 4, 2) := by decide +kernel
theorem d_Mo_placeOf_26 : decode jM_Mo_placeOf.2.1 26 = .ok (.bipush 24, 2) := by decide +kernel
theorem d_Mo_placeOf_28 : decode jM_Mo_placeOf.2.1 28 = .ok (.invokevirtual 205, 3) := by decide +kernel
theorem d_Mo_placeOf_31 : decode jM_Mo_placeOf.2.1 31 = .ok (.iadd, 1) := by decide +kernel
theorem d_Mo_placeOf_32 : decode jM_Mo_placeOf.2.1 32 = .ok (.istore 4, 2) := by decide +kernel
theorem d_Mo_placeOf_34 : decode jM_Mo_placeOf.2.1 34 = .ok (.iinc 5 1, 3) := by decide +kernel
theorem d_Mo_placeOf_37 : decode jM_Mo_placeOf.2.1 37 = .ok (.goto (-29), 3) := by decide +kernel
theorem d_Mo_placeOf_40 : decode jM_Mo_placeOf.2.1 40 = .ok (.iload 4, 2) := by decide +kernel
theorem d_Mo_placeOf_42 : decode jM_Mo_placeOf.2.1 42 = .ok (.ireturn, 1) := by decide +kernel
theorem d_Mo_ofRecord_0 : decode jM_Mo_ofRecord.2.1 0 = .ok (.iconst 3, 1) := by decide +kernel
theorem d_Mo_ofRecord_1 : decode jM_Mo_ofRecord.2.1 1 = .ok (.iload_n 3, 1) := by decide +kernel
theorem d_Mo_ofRecord_2 : decode jM_Mo_ofRecord.2.1 2 = .ok (.imul, 1) := by decide +kernel
theorem d_Mo_ofRecord_3 : decode jM_Mo_ofRecord.2.1 3 = .ok (.aload_n 0, 1) := by decide +kernel
theorem d_Mo_ofRecord_4 : decode jM_Mo_ofRecord.2.1 4 = .ok (.getfield 25, 3) := by decide +kernel
theorem d_Mo_ofRecord_7 : decode jM_Mo_ofRecord.2.1 7 = .ok (.iload_n 3, 1) := by decide +kernel
theorem d_Mo_ofRecord_8 : decode jM_Mo_ofRecord.2.1 8 = .ok (.iaload, 1) := by decide +kernel
theorem d_Mo_ofRecord_9 : decode jM_Mo_ofRecord.2.1 9 = .ok (.iadd, 1) := by decide +kernel
theorem d_Mo_ofRecord_10 : decode jM_Mo_ofRecord.2.1 10 = .ok (.iconst 1, 1) := by decide +kernel
theorem d_Mo_ofRecord_11 : decode jM_Mo_ofRecord.2.1 11 = .ok (.isub, 1) := by decide +kernel
theorem d_Mo_ofRecord_12 : decode jM_Mo_ofRecord.2.1 12 = .ok (.istore 4, 2) := by decide +kernel
theorem d_Mo_ofRecord_14 : decode jM_Mo_ofRecord.2.1 14 = .ok (.iload 4, 2) := by decide +kernel
theorem d_Mo_ofRecord_16 : decode jM_Mo_ofRecord.2.1 16 = .ok (.iconst 3, 1) := by decide +kernel
theorem d_Mo_ofRecord_17 : decode jM_Mo_ofRecord.2.1 17 = .ok (.iload_n 3, 1) := by decide +kernel
theorem d_Mo_ofRecord_18 : decode jM_Mo_ofRecord.2.1 18 = .ok (.imul, 1) := by decide +kernel
theorem d_Mo_ofRecord_19 : decode jM_Mo_ofRecord.2.1 19 = .ok (.if_icmp .lt 86, 3) := by decide +kernel
theorem d_Mo_ofRecord_22 : decode jM_Mo_ofRecord.2.1 22 = .ok (.aload_n 0, 1) := by decide +kernel
theorem d_Mo_ofRecord_23 : decode jM_Mo_ofRecord.2.1 23 = .ok (.iload_n 1, 1) := by decide +kernel
theorem d_Mo_ofRecord_24 : decode jM_Mo_ofRecord.2.1 24 = .ok (.aload_n 0, 1) := by decide +kernel
theorem d_Mo_ofRecord_25 : decode jM_Mo_ofRecord.2.1 25 = .ok (.getfield 28, 3) := by decide +kernel
theorem d_Mo_ofRecord_28 : decode jM_Mo_ofRecord.2.1 28 = .ok (.iload 4, 2) := by decide +kernel
theorem d_Mo_ofRecord_30 : decode jM_Mo_ofRecord.2.1 30 = .ok (.iaload, 1) := by decide +kernel
theorem d_Mo_ofRecord_31 : decode jM_Mo_ofRecord.2.1 31 = .ok (.invokevirtual 120, 3) := by decide +kernel
theorem d_Mo_ofRecord_34 : decode jM_Mo_ofRecord.2.1 34 = .ok (.istore 5, 2) := by decide +kernel
theorem d_Mo_ofRecord_36 : decode jM_Mo_ofRecord.2.1 36 = .ok (.iload 5, 2) := by decide +kernel
theorem d_Mo_ofRecord_38 : decode jM_Mo_ofRecord.2.1 38 = .ok (.ifCond .ge 15, 3) := by decide +kernel
theorem d_Mo_ofRecord_41 : decode jM_Mo_ofRecord.2.1 41 = .ok (.aload_n 0, 1) := by decide +kernel
theorem d_Mo_ofRecord_42 : decode jM_Mo_ofRecord.2.1 42 = .ok (.getfield 34, 3) := by decide +kernel
theorem d_Mo_ofRecord_45 : decode jM_Mo_ofRecord.2.1 45 = .ok (.iload 4, 2) := by decide +kernel
theorem d_Mo_ofRecord_47 : decode jM_Mo_ofRecord.2.1 47 = .ok (.baload, 1) := by decide +kernel
theorem d_Mo_ofRecord_48 : decode jM_Mo_ofRecord.2.1 48 = .ok (.ifCond .ne 5, 3) := by decide +kernel
theorem d_Mo_ofRecord_51 : decode jM_Mo_ofRecord.2.1 51 = .ok (.iconst 0, 1) := by decide +kernel
theorem d_Mo_ofRecord_52 : decode jM_Mo_ofRecord.2.1 52 = .ok (.ireturn, 1) := by decide +kernel
theorem d_Mo_ofRecord_53 : decode jM_Mo_ofRecord.2.1 53 = .ok (.iload 5, 2) := by decide +kernel
theorem d_Mo_ofRecord_55 : decode jM_Mo_ofRecord.2.1 55 = .ok (.ifCond .ge 14, 3) := by decide +kernel
theorem d_Mo_ofRecord_58 : decode jM_Mo_ofRecord.2.1 58 = .ok (.aload_n 0, 1) := by decide +kernel
theorem d_Mo_ofRecord_59 : decode jM_Mo_ofRecord.2.1 59 = .ok (.iconst (-1), 1) := by decide +kernel
theorem d_Mo_ofRecord_60 : decode jM_Mo_ofRecord.2.1 60 = .ok (.iconst 0, 1) := by decide +kernel
theorem d_Mo_ofRecord_61 : decode jM_Mo_ofRecord.2.1 61 = .ok (.iload 4, 2) := by decide +kernel
theorem d_Mo_ofRecord_63 : decode jM_Mo_ofRecord.2.1 63 = .ok (.invokevirtual 264, 3) := by decide +kernel
theorem d_Mo_ofRecord_66 : decode jM_Mo_ofRecord.2.1 66 = .ok (.goto 33, 3) := by decide +kernel
theorem d_Mo_ofRecord_69 : decode jM_Mo_ofRecord.2.1 69 = .ok (.aload_n 0, 1) := by decide +kernel
theorem d_Mo_ofRecord_70 : decode jM_Mo_ofRecord.2.1 70 = .ok (.iload_n 1, 1) := by decide +kernel
theorem d_Mo_ofRecord_71 : decode jM_Mo_ofRecord.2.1 71 = .ok (.iload_n 2, 1) := by decide +kernel
theorem d_Mo_ofRecord_72 : decode jM_Mo_ofRecord.2.1 72 = .ok (.iload 5, 2) := by decide +kernel
theorem d_Mo_ofRecord_74 : decode jM_Mo_ofRecord.2.1 74 = .ok (.invokevirtual 285, 3) := by decide +kernel
theorem d_Mo_ofRecord_77 : decode jM_Mo_ofRecord.2.1 77 = .ok (.istore 6, 2) := by decide +kernel
theorem d_Mo_ofRecord_79 : decode jM_Mo_ofRecord.2.1 79 = .ok (.aload_n 0, 1) := by decide +kernel
theorem d_Mo_ofRecord_80 : decode jM_Mo_ofRecord.2.1 80 = .ok (.aload_n 0, 1) := by decide +kernel
theorem d_Mo_ofRecord_81 : decode jM_Mo_ofRecord.2.1 81 = .ok (.getfield 31, 3) := by decide +kernel
theorem d_Mo_ofRecord_84 : decode jM_Mo_ofRecord.2.1 84 = .ok (.iload 5, 2) := by decide +kernel
theorem d_Mo_ofRecord_86 : decode jM_Mo_ofRecord.2.1 86 = .ok (.iaload, 1) := by decide +kernel
theorem d_Mo_ofRecord_87 : decode jM_Mo_ofRecord.2.1 87 = .ok (.iload 6, 2) := by decide +kernel
theorem d_Mo_ofRecord_89 : decode jM_Mo_ofRecord.2.1 89 = .ok (.aload_n 0, 1) := by decide +kernel
theorem d_Mo_ofRecord_90 : decode jM_Mo_ofRecord.2.1 90 = .ok (.getfield 31, 3) := by decide +kernel
theorem d_Mo_ofRecord_93 : decode jM_Mo_ofRecord.2.1 93 = .ok (.iload 4, 2) := by decide +kernel
theorem d_Mo_ofRecord_95 : decode jM_Mo_ofRecord.2.1 95 = .ok (.iaload, 1) := by decide +kernel
theorem d_Mo_ofRecord_96 : decode jM_Mo_ofRecord.2.1 96 = .ok (.invokevirtual 264, 3) := by decide +kernel
theorem d_Mo_ofRecord_99 : decode jM_Mo_ofRecord.2.1 99 = .ok (.iinc 4 (-1), 3) := by decide +kernel
theorem d_Mo_ofRecord_102 : decode jM_Mo_ofRecord.2.1 102 = .ok (.goto (-88), 3) := by decide +kernel
theorem d_Mo_ofRecord_105 : decode jM_Mo_ofRecord.2.1 105 = .ok (.iconst 1, 1) := by decide +kernel
theorem d_Mo_ofRecord_106 : decode jM_Mo_ofRecord.2.1 106 = .ok (.ireturn, 1) := by decide +kernel
theorem d_Mo_symbolOf_0 : decode jM_Mo_symbolOf.2.1 0 = .ok (.aload_n 0, 1) := by decide +kernel
theorem d_Mo_symbolOf_1 : decode jM_Mo_symbolOf.2.1 1 = .ok (.getfield 16, 3) := by decide +kernel
theorem d_Mo_symbolOf_4 : decode jM_Mo_symbolOf.2.1 4 = .ok (.iload_n 1, 1) := by decide +kernel
theorem d_Mo_symbolOf_5 : decode jM_Mo_symbolOf.2.1 5 = .ok (.iaload, 1) := by decide +kernel
theorem d_Mo_symbolOf_6 : decode jM_Mo_symbolOf.2.1 6 = .ok (.iload_n 2, 1) := by decide +kernel
theorem d_Mo_symbolOf_7 : decode jM_Mo_symbolOf.2.1 7 = .ok (.ishr, 1) := by decide +kernel
theorem d_Mo_symbolOf_8 : decode jM_Mo_symbolOf.2.1 8 = .ok (.iconst 1, 1) := by decide +kernel
theorem d_Mo_symbolOf_9 : decode jM_Mo_symbolOf.2.1 9 = .ok (.iand, 1) := by decide +kernel
theorem d_Mo_symbolOf_10 : decode jM_Mo_symbolOf.2.1 10 = .ok (.iconst 1, 1) := by decide +kernel
theorem d_Mo_symbolOf_11 : decode jM_Mo_symbolOf.2.1 11 = .ok (.if_icmp .ne 7, 3) := by decide +kernel
theorem d_Mo_symbolOf_14 : decode jM_Mo_symbolOf.2.1 14 = .ok (.iconst 1, 1) := by decide +kernel
theorem d_Mo_symbolOf_15 : decode jM_Mo_symbolOf.2.1 15 = .ok (.goto 4, 3) := by decide +kernel
theorem d_Mo_symbolOf_18 : decode jM_Mo_symbolOf.2.1 18 = .ok (.iconst 0, 1) := by decide +kernel
theorem d_Mo_symbolOf_19 : decode jM_Mo_symbolOf.2.1 19 = .ok (.istore_n 3, 1) := by decide +kernel
theorem d_Mo_symbolOf_20 : decode jM_Mo_symbolOf.2.1 20 = .ok (.iload_n 3, 1) := by decide +kernel
theorem d_Mo_symbolOf_21 : decode jM_Mo_symbolOf.2.1 21 = .ok (.ifCond .ne 15, 3) := by decide +kernel
theorem d_Mo_symbolOf_24 : decode jM_Mo_symbolOf.2.1 24 = .ok (.aload_n 0, 1) := by decide +kernel
theorem d_Mo_symbolOf_25 : decode jM_Mo_symbolOf.2.1 25 = .ok (.getfield 19, 3) := by decide +kernel
theorem d_Mo_symbolOf_28 : decode jM_Mo_symbolOf.2.1 28 = .ok (.iload_n 1, 1) := by decide +kernel
theorem d_Mo_symbolOf_29 : decode jM_Mo_symbolOf.2.1 29 = .ok (.iaload, 1) := by decide +kernel
theorem d_Mo_symbolOf_30 : decode jM_Mo_symbolOf.2.1 30 = .ok (.iconst (-1), 1) := by decide +kernel
theorem d_Mo_symbolOf_31 : decode jM_Mo_symbolOf.2.1 31 = .ok (.if_icmp .ne 5, 3) := by decide +kernel
theorem d_Mo_symbolOf_34 : decode jM_Mo_symbolOf.2.1 34 = .ok (.iconst 0, 1) := by decide +kernel
theorem d_Mo_symbolOf_35 : decode jM_Mo_symbolOf.2.1 35 = .ok (.ireturn, 1) := by decide +kernel
theorem d_Mo_symbolOf_36 : decode jM_Mo_symbolOf.2.1 36 = .ok (.aload_n 0, 1) := by decide +kernel
theorem d_Mo_symbolOf_37 : decode jM_Mo_symbolOf.2.1 37 = .ok (.iload_n 3, 1) := by decide +kernel
theorem d_Mo_symbolOf_38 : decode jM_Mo_symbolOf.2.1 38 = .ok (.ifCond .eq 8, 3) := by decide +kernel
theorem d_Mo_symbolOf_41 : decode jM_Mo_symbolOf.2.1 41 = .ok (.iload_n 2, 1) := by decide +kernel
theorem d_Mo_symbolOf_42 : decode jM_Mo_symbolOf.2.1 42 = .ok (.i2l, 1) := by decide +kernel
theorem d_Mo_symbolOf_43 : decode jM_Mo_symbolOf.2.1 43 = .ok (.goto 10, 3) := by decide +kernel
theorem d_Mo_symbolOf_46 : decode jM_Mo_symbolOf.2.1 46 = .ok (.aload_n 0, 1) := by decide +kernel
theorem d_Mo_symbolOf_47 : decode jM_Mo_symbolOf.2.1 47 = .ok (.getfield 19, 3) := by decide +kernel
theorem d_Mo_symbolOf_50 : decode jM_Mo_symbolOf.2.1 50 = .ok (.iload_n 1, 1) := by decide +kernel
theorem d_Mo_symbolOf_51 : decode jM_Mo_symbolOf.2.1 51 = .ok (.iaload, 1) := by decide +kernel
theorem d_Mo_symbolOf_52 : decode jM_Mo_symbolOf.2.1 52 = .ok (.i2l, 1) := by decide +kernel
theorem d_Mo_symbolOf_53 : decode jM_Mo_symbolOf.2.1 53 = .ok (.invokevirtual 273, 3) := by decide +kernel
theorem d_Mo_symbolOf_56 : decode jM_Mo_symbolOf.2.1 56 = .ok (.iconst 1, 1) := by decide +kernel
theorem d_Mo_symbolOf_57 : decode jM_Mo_symbolOf.2.1 57 = .ok (.ireturn, 1) := by decide +kernel
theorem d_Mo_part_0 : decode jM_Mo_part.2.1 0 = .ok (.aload_n 0, 1) := by decide +kernel
theorem d_Mo_part_1 : decode jM_Mo_part.2.1 1 = .ok (.getfield 7, 3) := by decide +kernel
theorem d_Mo_part_4 : decode jM_Mo_part.2.1 4 = .ok (.iload_n 1, 1) := by decide +kernel
theorem d_Mo_part_5 : decode jM_Mo_part.2.1 5 = .ok (.iaload, 1) := by decide +kernel
theorem d_Mo_part_6 : decode jM_Mo_part.2.1 6 = .ok (.bipush 6, 2) := by decide +kernel
theorem d_Mo_part_8 : decode jM_Mo_part.2.1 8 = .ok (.if_icmp .ne 39, 3) := by decide +kernel
theorem d_Mo_part_11 : decode jM_Mo_part.2.1 11 = .ok (.aload_n 0, 1) := by decide +kernel
theorem d_Mo_part_12 : decode jM_Mo_part.2.1 12 = .ok (.aload_n 0, 1) := by decide +kernel
theorem d_Mo_part_13 : decode jM_Mo_part.2.1 13 = .ok (.getfield 66, 3) := by decide +kernel
theorem d_Mo_part_16 : decode jM_Mo_part.2.1 16 = .ok (.iload_n 2, 1) := by decide +kernel
theorem d_Mo_part_17 : decode jM_Mo_part.2.1 17 = .ok (.laload, 1) := by decide +kernel
theorem d_Mo_part_18 : decode jM_Mo_part.2.1 18 = .ok (.lconst 0, 1) := by decide +kernel
theorem d_Mo_part_19 : decode jM_Mo_part.2.1 19 = .ok (.lcmp, 1) := by decide +kernel
theorem d_Mo_part_20 : decode jM_Mo_part.2.1 20 = .ok (.ifCond .ne 12, 3) := by decide +kernel
theorem d_Mo_part_23 : decode jM_Mo_part.2.1 23 = .ok (.aload_n 0, 1) := by decide +kernel
theorem d_Mo_part_24 : decode jM_Mo_part.2.1 24 = .ok (.getfield 16, 3) := by decide +kernel
theorem d_Mo_part_27 : decode jM_Mo_part.2.1 27 = .ok (.iload_n 1, 1) := by decide +kernel
theorem d_Mo_part_28 : decode jM_Mo_part.2.1 28 = .ok (.iaload, 1) := by decide +kernel
theorem d_Mo_part_29 : decode jM_Mo_part.2.1 29 = .ok (.goto 9, 3) := by decide +kernel
theorem d_Mo_part_32 : decode jM_Mo_part.2.1 32 = .ok (.aload_n 0, 1) := by decide +kernel
theorem d_Mo_part_33 : decode jM_Mo_part.2.1 33 = .ok (.getfield 19, 3) := by decide +kernel
theorem d_Mo_part_36 : decode jM_Mo_part.2.1 36 = .ok (.iload_n 1, 1) := by decide +kernel
theorem d_Mo_part_37 : decode jM_Mo_part.2.1 37 = .ok (.iaload, 1) := by decide +kernel
theorem d_Mo_part_38 : decode jM_Mo_part.2.1 38 = .ok (.iload_n 2, 1) := by decide +kernel
theorem d_Mo_part_39 : decode jM_Mo_part.2.1 39 = .ok (.iconst 1, 1) := by decide +kernel
theorem d_Mo_part_40 : decode jM_Mo_part.2.1 40 = .ok (.iadd, 1) := by decide +kernel
theorem d_Mo_part_41 : decode jM_Mo_part.2.1 41 = .ok (.iload_n 3, 1) := by decide +kernel
theorem d_Mo_part_42 : decode jM_Mo_part.2.1 42 = .ok (.invokevirtual 264, 3) := by decide +kernel
theorem d_Mo_part_45 : decode jM_Mo_part.2.1 45 = .ok (.iconst 1, 1) := by decide +kernel
theorem d_Mo_part_46 : decode jM_Mo_part.2.1 46 = .ok (.ireturn, 1) := by decide +kernel
theorem d_Mo_part_47 : decode jM_Mo_part.2.1 47 = .ok (.aload_n 0, 1) := by decide +kernel
theorem d_Mo_part_48 : decode jM_Mo_part.2.1 48 = .ok (.getfield 7, 3) := by decide +kernel
theorem d_Mo_part_51 : decode jM_Mo_part.2.1 51 = .ok (.iload_n 3, 1) := by decide +kernel
theorem d_Mo_part_52 : decode jM_Mo_part.2.1 52 = .ok (.iaload, 1) := by decide +kernel
theorem d_Mo_part_53 : decode jM_Mo_part.2.1 53 = .ok (.bipush 6, 2) := by decide +kernel
theorem d_Mo_part_55 : decode jM_Mo_part.2.1 55 = .ok (.if_icmp .ne 39, 3) := by decide +kernel
theorem d_Mo_part_58 : decode jM_Mo_part.2.1 58 = .ok (.aload_n 0, 1) := by decide +kernel
theorem d_Mo_part_59 : decode jM_Mo_part.2.1 59 = .ok (.iload_n 3, 1) := by decide +kernel
theorem d_Mo_part_60 : decode jM_Mo_part.2.1 60 = .ok (.iload_n 1, 1) := by decide +kernel
theorem d_Mo_part_61 : decode jM_Mo_part.2.1 61 = .ok (.invokevirtual 110, 3) := by decide +kernel
theorem d_Mo_part_64 : decode jM_Mo_part.2.1 64 = .ok (.istore 4, 2) := by decide +kernel
theorem d_Mo_part_66 : decode jM_Mo_part.2.1 66 = .ok (.iload 4, 2) := by decide +kernel
theorem d_Mo_part_68 : decode jM_Mo_part.2.1 68 = .ok (.ifCond .ge 5, 3) := by decide +kernel
theorem d_Mo_part_71 : decode jM_Mo_part.2.1 71 = .ok (.iconst 0, 1) := by decide +kernel
theorem d_Mo_part_72 : decode jM_Mo_part.2.1 72 = .ok (.ireturn, 1) := by decide +kernel
theorem d_Mo_part_73 : decode jM_Mo_part.2.1 73 = .ok (.aload_n 0, 1) := by decide +kernel
theorem d_Mo_part_74 : decode jM_Mo_part.2.1 74 = .ok (.iload 4, 2) := by decide +kernel
theorem d_Mo_part_76 : decode jM_Mo_part.2.1 76 = .ok (.i2l, 1) := by decide +kernel
theorem d_Mo_part_77 : decode jM_Mo_part.2.1 77 = .ok (.invokevirtual 273, 3) := by decide +kernel
theorem d_Mo_part_80 : decode jM_Mo_part.2.1 80 = .ok (.aload_n 0, 1) := by decide +kernel
theorem d_Mo_part_81 : decode jM_Mo_part.2.1 81 = .ok (.iload_n 1, 1) := by decide +kernel
theorem d_Mo_part_82 : decode jM_Mo_part.2.1 82 = .ok (.iload_n 2, 1) := by decide +kernel
theorem d_Mo_part_83 : decode jM_Mo_part.2.1 83 = .ok (.aload_n 0, 1) := by decide +kernel
theorem d_Mo_part_84 : decode jM_Mo_part.2.1 84 = .ok (.iload_n 3, 1) := by decide +kernel
theorem d_Mo_part_85 : decode jM_Mo_part.2.1 85 = .ok (.iload_n 1, 1) := by decide +kernel
theorem d_Mo_part_86 : decode jM_Mo_part.2.1 86 = .ok (.invokevirtual 114, 3) := by decide +kernel
theorem d_Mo_part_89 : decode jM_Mo_part.2.1 89 = .ok (.invokevirtual 264, 3) := by decide +kernel
theorem d_Mo_part_92 : decode jM_Mo_part.2.1 92 = .ok (.iconst 1, 1) := by decide +kernel
theorem d_Mo_part_93 : decode jM_Mo_part.2.1 93 = .ok (.ireturn, 1) := by decide +kernel
theorem d_Mo_part_94 : decode jM_Mo_part.2.1 94 = .ok (.aload_n 0, 1) := by decide +kernel
theorem d_Mo_part_95 : decode jM_Mo_part.2.1 95 = .ok (.getfield 7, 3) := by decide +kernel
theorem d_Mo_part_98 : decode jM_Mo_part.2.1 98 = .ok (.iload_n 1, 1) := by decide +kernel
theorem d_Mo_part_99 : decode jM_Mo_part.2.1 99 = .ok (.iaload, 1) := by decide +kernel
theorem d_Mo_part_100 : decode jM_Mo_part.2.1 100 = .ok (.aload_n 0, 1) := by decide +kernel
theorem d_Mo_part_101 : decode jM_Mo_part.2.1 101 = .ok (.getfield 7, 3) := by decide +kernel
theorem d_Mo_part_104 : decode jM_Mo_part.2.1 104 = .ok (.iload_n 3, 1) := by decide +kernel
theorem d_Mo_part_105 : decode jM_Mo_part.2.1 105 = .ok (.iaload, 1) := by decide +kernel
theorem d_Mo_part_106 : decode jM_Mo_part.2.1 106 = .ok (.if_icmp .eq 37, 3) := by decide +kernel
theorem d_Mo_part_109 : decode jM_Mo_part.2.1 109 = .ok (.aload_n 0, 1) := by decide +kernel
theorem d_Mo_part_110 : decode jM_Mo_part.2.1 110 = .ok (.getfield 7, 3) := by decide +kernel
theorem d_Mo_part_113 : decode jM_Mo_part.2.1 113 = .ok (.iload_n 1, 1) := by decide +kernel
theorem d_Mo_part_114 : decode jM_Mo_part.2.1 114 = .ok (.iaload, 1) := by decide +kernel
theorem d_Mo_part_115 : decode jM_Mo_part.2.1 115 = .ok (.iconst 2, 1) := by decide +kernel
theorem d_Mo_part_116 : decode jM_Mo_part.2.1 116 = .ok (.if_icmp .ne 13, 3) := by decide +kernel
theorem d_Mo_part_119 : decode jM_Mo_part.2.1 119 = .ok (.aload_n 0, 1) := by decide +kernel
theorem d_Mo_part_120 : decode jM_Mo_part.2.1 120 = .ok (.getfield 7, 3) := by decide +kernel
theorem d_Mo_part_123 : decode jM_Mo_part.2.1 123 = .ok (.iload_n 3, 1) := by decide +kernel
theorem d_Mo_part_124 : decode jM_Mo_part.2.1 124 = .ok (.iaload, 1) := by decide +kernel
theorem d_Mo_part_125 : decode jM_Mo_part.2.1 125 = .ok (.iconst 3, 1) := by decide +kernel
theorem d_Mo_part_126 : decode jM_Mo_part.2.1 126 = .ok (.if_icmp .eq 5, 3) := by decide +kernel
theorem d_Mo_part_129 : decode jM_Mo_part.2.1 129 = .ok (.iconst 0, 1) := by decide +kernel
theorem d_Mo_part_130 : decode jM_Mo_part.2.1 130 = .ok (.ireturn, 1) := by decide +kernel
theorem d_Mo_part_131 : decode jM_Mo_part.2.1 131 = .ok (.aload_n 0, 1) := by decide +kernel
theorem d_Mo_part_132 : decode jM_Mo_part.2.1 132 = .ok (.aload_n 0, 1) := by decide +kernel
theorem d_Mo_part_133 : decode jM_Mo_part.2.1 133 = .ok (.getfield 66, 3) := by decide +kernel
theorem d_Mo_part_136 : decode jM_Mo_part.2.1 136 = .ok (.iload_n 2, 1) := by decide +kernel
theorem d_Mo_part_137 : decode jM_Mo_part.2.1 137 = .ok (.laload, 1) := by decide +kernel
theorem d_Mo_part_138 : decode jM_Mo_part.2.1 138 = .ok (.invokevirtual 273, 3) := by decide +kernel
theorem d_Mo_part_141 : decode jM_Mo_part.2.1 141 = .ok (.iconst 1, 1) := by decide +kernel
theorem d_Mo_part_142 : decode jM_Mo_part.2.1 142 = .ok (.ireturn, 1) := by decide +kernel
theorem d_Mo_part_143 : decode jM_Mo_part.2.1 143 = .ok (.aload_n 0, 1) := by decide +kernel
theorem d_Mo_part_144 : decode jM_Mo_part.2.1 144 = .ok (.getfield 7, 3) := by decide +kernel
theorem d_Mo_part_147 : decode jM_Mo_part.2.1 147 = .ok (.iload_n 3, 1) := by decide +kernel
theorem d_Mo_part_148 : decode jM_Mo_part.2.1 148 = .ok (.iaload, 1) := by decide +kernel
theorem d_Mo_part_149 : decode jM_Mo_part.2.1 149 = .ok (.bipush 7, 2) := by decide +kernel
theorem d_Mo_part_151 : decode jM_Mo_part.2.1 151 = .ok (.if_icmp .ne 34, 3) := by decide +kernel
theorem d_Mo_part_154 : decode jM_Mo_part.2.1 154 = .ok (.aload_n 0, 1) := by decide +kernel
theorem d_Mo_part_155 : decode jM_Mo_part.2.1 155 = .ok (.getfield 13, 3) := by decide +kernel
theorem d_Mo_part_158 : decode jM_Mo_part.2.1 158 = .ok (.iload_n 1, 1) := by decide +kernel
theorem d_Mo_part_159 : decode jM_Mo_part.2.1 159 = .ok (.iaload, 1) := by decide +kernel
theorem d_Mo_part_160 : decode jM_Mo_part.2.1 160 = .ok (.aload_n 0, 1) := by decide +kernel
theorem d_Mo_part_161 : decode jM_Mo_part.2.1 161 = .ok (.getfield 13, 3) := by decide +kernel
theorem d_Mo_part_164 : decode jM_Mo_part.2.1 164 = .ok (.iload_n 3, 1) := by decide +kernel
theorem d_Mo_part_165 : decode jM_Mo_part.2.1 165 = .ok (.iaload, 1) := by decide +kernel
theorem d_Mo_part_166 : decode jM_Mo_part.2.1 166 = .ok (.if_icmp .ne 17, 3) := by decide +kernel
theorem d_Mo_part_169 : decode jM_Mo_part.2.1 169 = .ok (.aload_n 0, 1) := by decide +kernel
theorem d_Mo_part_170 : decode jM_Mo_part.2.1 170 = .ok (.iload_n 1, 1) := by decide +kernel
theorem d_Mo_part_171 : decode jM_Mo_part.2.1 171 = .ok (.iload_n 2, 1) := by decide +kernel
theorem d_Mo_part_172 : decode jM_Mo_part.2.1 172 = .ok (.iload_n 3, 1) := by decide +kernel
theorem d_Mo_part_173 : decode jM_Mo_part.2.1 173 = .ok (.invokevirtual 276, 3) := by decide +kernel
theorem d_Mo_part_176 : decode jM_Mo_part.2.1 176 = .ok (.ifCond .eq 7, 3) := by decide +kernel
theorem d_Mo_part_179 : decode jM_Mo_part.2.1 179 = .ok (.iconst 1, 1) := by decide +kernel
theorem d_Mo_part_180 : decode jM_Mo_part.2.1 180 = .ok (.goto 4, 3) := by decide +kernel
theorem d_Mo_part_183 : decode jM_Mo_part.2.1 183 = .ok (.iconst 0, 1) := by decide +kernel
theorem d_Mo_part_184 : decode jM_Mo_part.2.1 184 = .ok (.ireturn, 1) := by decide +kernel
theorem d_Mo_part_185 : decode jM_Mo_part.2.1 185 = .ok (.aload_n 0, 1) := by decide +kernel
theorem d_Mo_part_186 : decode jM_Mo_part.2.1 186 = .ok (.getfield 7, 3) := by decide +kernel
theorem d_Mo_part_189 : decode jM_Mo_part.2.1 189 = .ok (.iload_n 3, 1) := by decide +kernel
theorem d_Mo_part_190 : decode jM_Mo_part.2.1 190 = .ok (.iaload, 1) := by decide +kernel
theorem d_Mo_part_191 : decode jM_Mo_part.2.1 191 = .ok (.iconst 4, 1) := by decide +kernel
theorem d_Mo_part_192 : decode jM_Mo_part.2.1 192 = .ok (.if_icmp .ne 39, 3) := by decide +kernel
theorem d_Mo_part_195 : decode jM_Mo_part.2.1 195 = .ok (.aload_n 0, 1) := by decide +kernel
theorem d_Mo_part_196 : decode jM_Mo_part.2.1 196 = .ok (.getfield 13, 3) := by decide +kernel
theorem d_Mo_part_199 : decode jM_Mo_part.2.1 199 = .ok (.iload_n 1, 1) := by decide +kernel
theorem d_Mo_part_200 : decode jM_Mo_part.2.1 200 = .ok (.iaload, 1) := by decide +kernel
theorem d_Mo_part_201 : decode jM_Mo_part.2.1 201 = .ok (.aload_n 0, 1) := by decide +kernel
theorem d_Mo_part_202 : decode jM_Mo_part.2.1 202 = .ok (.getfield 13, 3) := by decide +kernel
theorem d_Mo_part_205 : decode jM_Mo_part.2.1 205 = .ok (.iload_n 3, 1) := by decide +kernel
theorem d_Mo_part_206 : decode jM_Mo_part.2.1 206 = .ok (.iaload, 1) := by decide +kernel
theorem d_Mo_part_207 : decode jM_Mo_part.2.1 207 = .ok (.if_icmp .ne 22, 3) := by decide +kernel
theorem d_Mo_part_210 : decode jM_Mo_part.2.1 210 = .ok (.aload_n 0, 1) := by decide +kernel
theorem d_Mo_part_211 : decode jM_Mo_part.2.1 211 = .ok (.iload_n 3, 1) := by decide +kernel
theorem d_Mo_part_212 : decode jM_Mo_part.2.1 212 = .ok (.aload_n 0, 1) := by decide +kernel
theorem d_Mo_part_213 : decode jM_Mo_part.2.1 213 = .ok (.getfield 66, 3) := by decide +kernel
theorem d_Mo_part_216 : decode jM_Mo_part.2.1 216 = .ok (.iload_n 2, 1) := by decide +kernel
theorem d_Mo_part_217 : decode jM_Mo_part.2.1 217 = .ok (.laload, 1) := by decide +kernel
theorem d_Mo_part_218 : decode jM_Mo_part.2.1 218 = .ok (.l2i, 1) := by decide +kernel
theorem d_Mo_part_219 : decode jM_Mo_part.2.1 219 = .ok (.invokevirtual 279, 3) := by decide +kernel
theorem d_Mo_part_222 : decode jM_Mo_part.2.1 222 = .ok (.ifCond .eq 7, 3) := by decide +kernel
theorem d_Mo_part_225 : decode jM_Mo_part.2.1 225 = .ok (.iconst 1, 1) := by decide +kernel
theorem d_Mo_part_226 : decode jM_Mo_part.2.1 226 = .ok (.goto 4, 3) := by decide +kernel
theorem d_Mo_part_229 : decode jM_Mo_part.2.1 229 = .ok (.iconst 0, 1) := by decide +kernel
theorem d_Mo_part_230 : decode jM_Mo_part.2.1 230 = .ok (.ireturn, 1) := by decide +kernel
theorem d_Mo_part_231 : decode jM_Mo_part.2.1 231 = .ok (.aload_n 0, 1) := by decide +kernel
theorem d_Mo_part_232 : decode jM_Mo_part.2.1 232 = .ok (.getfield 7, 3) := by decide +kernel
theorem d_Mo_part_235 : decode jM_Mo_part.2.1 235 = .ok (.iload_n 3, 1) := by decide +kernel
theorem d_Mo_part_236 : decode jM_Mo_part.2.1 236 = .ok (.iaload, 1) := by decide +kernel
theorem d_Mo_part_237 : decode jM_Mo_part.2.1 237 = .ok (.ifCond .eq 13, 3) := by decide +kernel
theorem d_Mo_part_240 : decode jM_Mo_part.2.1 240 = .ok (.aload_n 0, 1) := by decide +kernel
theorem d_Mo_part_241 : decode jM_Mo_part.2.1 241 = .ok (.aload_n 0, 1) := by decide +kernel
theorem d_Mo_part_242 : decode jM_Mo_part.2.1 242 = .ok (.getfield 66, 3) := by decide +kernel
theorem d_Mo_part_245 : decode jM_Mo_part.2.1 245 = .ok (.iload_n 2, 1) := by decide +kernel
theorem d_Mo_part_246 : decode jM_Mo_part.2.1 246 = .ok (.laload, 1) := by decide +kernel
theorem d_Mo_part_247 : decode jM_Mo_part.2.1 247 = .ok (.invokevirtual 273, 3) := by decide +kernel
theorem d_Mo_part_250 : decode jM_Mo_part.2.1 250 = .ok (.aload_n 0, 1) := by decide +kernel
theorem d_Mo_part_251 : decode jM_Mo_part.2.1 251 = .ok (.getfield 7, 3) := by decide +kernel
theorem d_Mo_part_254 : decode jM_Mo_part.2.1 254 = .ok (.iload_n 3, 1) := by decide +kernel
theorem d_Mo_part_255 : decode jM_Mo_part.2.1 255 = .ok (.iaload, 1) := by decide +kernel
theorem d_Mo_part_256 : decode jM_Mo_part.2.1 256 = .ok (.iconst 5, 1) := by decide +kernel
theorem d_Mo_part_257 : decode jM_Mo_part.2.1 257 = .ok (.if_icmp .ne 10, 3) := by decide +kernel
theorem d_Mo_part_260 : decode jM_Mo_part.2.1 260 = .ok (.aload_n 0, 1) := by decide +kernel
theorem d_Mo_part_261 : decode jM_Mo_part.2.1 261 = .ok (.iload_n 1, 1) := by decide +kernel
theorem d_Mo_part_262 : decode jM_Mo_part.2.1 262 = .ok (.iload_n 2, 1) := by decide +kernel
theorem d_Mo_part_263 : decode jM_Mo_part.2.1 263 = .ok (.iload_n 3, 1) := by decide +kernel
theorem d_Mo_part_264 : decode jM_Mo_part.2.1 264 = .ok (.invokevirtual 282, 3) := by decide +kernel
theorem d_Mo_part_267 : decode jM_Mo_part.2.1 267 = .ok (.iconst 1, 1) := by decide +kernel
theorem d_Mo_part_268 : decode jM_Mo_part.2.1 268 = .ok (.ireturn, 1) := by decide +kernel
theorem d_Mo_resolve_0 : decode jM_Mo_resolve.2.1 0 = .ok (.aload_n 0, 1) := by decide +kernel
theorem d_Mo_resolve_1 : decode jM_Mo_resolve.2.1 1 = .ok (.iconst 0, 1) := by decide +kernel
theorem d_Mo_resolve_2 : decode jM_Mo_resolve.2.1 2 = .ok (.putfield 258, 3) := by decide +kernel
theorem d_Mo_resolve_5 : decode jM_Mo_resolve.2.1 5 = .ok (.aload_n 0, 1) := by decide +kernel
theorem d_Mo_resolve_6 : decode jM_Mo_resolve.2.1 6 = .ok (.iconst 0, 1) := by decide +kernel
theorem d_Mo_resolve_7 : decode jM_Mo_resolve.2.1 7 = .ok (.putfield 261, 3) := by decide +kernel
theorem d_Mo_resolve_10 : decode jM_Mo_resolve.2.1 10 = .ok (.aload_n 0, 1) := by decide +kernel
theorem d_Mo_resolve_11 : decode jM_Mo_resolve.2.1 11 = .ok (.iload_n 1, 1) := by decide +kernel
theorem d_Mo_resolve_12 : decode jM_Mo_resolve.2.1 12 = .ok (.iconst 0, 1) := by decide +kernel
theorem d_Mo_resolve_13 : decode jM_Mo_resolve.2.1 13 = .ok (.iload_n 2, 1) := by decide +kernel
theorem d_Mo_resolve_14 : decode jM_Mo_resolve.2.1 14 = .ok (.invokevirtual 264, 3) := by decide +kernel
theorem d_Mo_resolve_17 : decode jM_Mo_resolve.2.1 17 = .ok (.aload_n 0, 1) := by decide +kernel
theorem d_Mo_resolve_18 : decode jM_Mo_resolve.2.1 18 = .ok (.getfield 258, 3) := by decide +kernel
theorem d_Mo_resolve_21 : decode jM_Mo_resolve.2.1 21 = .ok (.ifCond .le 86, 3) := by decide +kernel
theorem d_Mo_resolve_24 : decode jM_Mo_resolve.2.1 24 = .ok (.aload_n 0, 1) := by decide +kernel
theorem d_Mo_resolve_25 : decode jM_Mo_resolve.2.1 25 = .ok (.dup, 1) := by decide +kernel
theorem d_Mo_resolve_26 : decode jM_Mo_resolve.2.1 26 = .ok (.getfield 258, 3) := by decide +kernel
theorem d_Mo_resolve_29 : decode jM_Mo_resolve.2.1 29 = .ok (.iconst 1, 1) := by decide +kernel
theorem d_Mo_resolve_30 : decode jM_Mo_resolve.2.1 30 = .ok (.isub, 1) := by decide +kernel
theorem d_Mo_resolve_31 : decode jM_Mo_resolve.2.1 31 = .ok (.putfield 258, 3) := by decide +kernel
theorem d_Mo_resolve_34 : decode jM_Mo_resolve.2.1 34 = .ok (.aload_n 0, 1) := by decide +kernel
theorem d_Mo_resolve_35 : decode jM_Mo_resolve.2.1 35 = .ok (.getfield 72, 3) := by decide +kernel
theorem d_Mo_resolve_38 : decode jM_Mo_resolve.2.1 38 = .ok (.iconst 3, 1) := by decide +kernel
theorem d_Mo_resolve_39 : decode jM_Mo_resolve.2.1 39 = .ok (.aload_n 0, 1) := by decide +kernel
theorem d_Mo_resolve_40 : decode jM_Mo_resolve.2.1 40 = .ok (.getfield 258, 3) := by decide +kernel
theorem d_Mo_resolve_43 : decode jM_Mo_resolve.2.1 43 = .ok (.imul, 1) := by decide +kernel
theorem d_Mo_resolve_44 : decode jM_Mo_resolve.2.1 44 = .ok (.iaload, 1) := by decide +kernel
theorem d_Mo_resolve_45 : decode jM_Mo_resolve.2.1 45 = .ok (.istore_n 3, 1) := by decide +kernel
theorem d_Mo_resolve_46 : decode jM_Mo_resolve.2.1 46 = .ok (.aload_n 0, 1) := by decide +kernel
theorem d_Mo_resolve_47 : decode jM_Mo_resolve.2.1 47 = .ok (.getfield 72, 3) := by decide +kernel
theorem d_Mo_resolve_50 : decode jM_Mo_resolve.2.1 50 = .ok (.iconst 3, 1) := by decide +kernel
theorem d_Mo_resolve_51 : decode jM_Mo_resolve.2.1 51 = .ok (.aload_n 0, 1) := by decide +kernel
theorem d_Mo_resolve_52 : decode jM_Mo_resolve.2.1 52 = .ok (.getfield 258, 3) := by decide +kernel
theorem d_Mo_resolve_55 : decode jM_Mo_resolve.2.1 55 = .ok (.imul, 1) := by decide +kernel
theorem d_Mo_resolve_56 : decode jM_Mo_resolve.2.1 56 = .ok (.iconst 1, 1) := by decide +kernel
theorem d_Mo_resolve_57 : decode jM_Mo_resolve.2.1 57 = .ok (.iadd, 1) := by decide +kernel
theorem d_Mo_resolve_58 : decode jM_Mo_resolve.2.1 58 = .ok (.iaload, 1) := by decide +kernel
theorem d_Mo_resolve_59 : decode jM_Mo_resolve.2.1 59 = .ok (.istore 4, 2) := by decide +kernel
theorem d_Mo_resolve_61 : decode jM_Mo_resolve.2.1 61 = .ok (.aload_n 0, 1) := by decide +kernel
theorem d_Mo_resolve_62 : decode jM_Mo_resolve.2.1 62 = .ok (.getfield 72, 3) := by decide +kernel
theorem d_Mo_resolve_65 : decode jM_Mo_resolve.2.1 65 = .ok (.iconst 3, 1) := by decide +kernel
theorem d_Mo_resolve_66 : decode jM_Mo_resolve.2.1 66 = .ok (.aload_n 0, 1) := by decide +kernel
theorem d_Mo_resolve_67 : decode jM_Mo_resolve.2.1 67 = .ok (.getfield 258, 3) := by decide +kernel
theorem d_Mo_resolve_70 : decode jM_Mo_resolve.2.1 70 = .ok (.imul, 1) := by decide +kernel
theorem d_Mo_resolve_71 : decode jM_Mo_resolve.2.1 71 = .ok (.iconst 2, 1) := by decide +kernel
theorem d_Mo_resolve_72 : decode jM_Mo_resolve.2.1 72 = .ok (.iadd, 1) := by decide +kernel
theorem d_Mo_resolve_73 : decode jM_Mo_resolve.2.1 73 = .ok (.iaload, 1) := by decide +kernel
theorem d_Mo_resolve_74 : decode jM_Mo_resolve.2.1 74 = .ok (.istore 5, 2) := by decide +kernel
theorem d_Mo_resolve_76 : decode jM_Mo_resolve.2.1 76 = .ok (.iload_n 3, 1) := by decide +kernel
theorem d_Mo_resolve_77 : decode jM_Mo_resolve.2.1 77 = .ok (.ifCond .ge 12, 3) := by decide +kernel
theorem d_Mo_resolve_80 : decode jM_Mo_resolve.2.1 80 = .ok (.aload_n 0, 1) := by decide +kernel
theorem d_Mo_resolve_81 : decode jM_Mo_resolve.2.1 81 = .ok (.iload 5, 2) := by decide +kernel
theorem d_Mo_resolve_83 : decode jM_Mo_resolve.2.1 83 = .ok (.invokevirtual 267, 3) := by decide +kernel
theorem d_Mo_resolve_86 : decode jM_Mo_resolve.2.1 86 = .ok (.goto 18, 3) := by decide +kernel
theorem d_Mo_resolve_89 : decode jM_Mo_resolve.2.1 89 = .ok (.aload_n 0, 1) := by decide +kernel
theorem d_Mo_resolve_90 : decode jM_Mo_resolve.2.1 90 = .ok (.iload_n 3, 1) := by decide +kernel
theorem d_Mo_resolve_91 : decode jM_Mo_resolve.2.1 91 = .ok (.iload 4, 2) := by decide +kernel
theorem d_Mo_resolve_93 : decode jM_Mo_resolve.2.1 93 = .ok (.iload 5, 2) := by decide +kernel
theorem d_Mo_resolve_95 : decode jM_Mo_resolve.2.1 95 = .ok (.invokevirtual 270, 3) := by decide +kernel
theorem d_Mo_resolve_98 : decode jM_Mo_resolve.2.1 98 = .ok (.ifCond .ne 6, 3) := by decide +kernel
theorem d_Mo_resolve_101 : decode jM_Mo_resolve.2.1 101 = .ok (.bipush (-2), 2) := by decide +kernel
theorem d_Mo_resolve_103 : decode jM_Mo_resolve.2.1 103 = .ok (.ireturn, 1) := by decide +kernel
theorem d_Mo_resolve_104 : decode jM_Mo_resolve.2.1 104 = .ok (.goto (-87), 3) := by decide +kernel
theorem d_Mo_resolve_107 : decode jM_Mo_resolve.2.1 107 = .ok (.aload_n 0, 1) := by decide +kernel
theorem d_Mo_resolve_108 : decode jM_Mo_resolve.2.1 108 = .ok (.getfield 261, 3) := by decide +kernel
theorem d_Mo_resolve_111 : decode jM_Mo_resolve.2.1 111 = .ok (.ireturn, 1) := by decide +kernel
theorem d_Mo_read_0 : decode jM_Mo_read.2.1 0 = .ok (.aload_n 0, 1) := by decide +kernel
theorem d_Mo_read_1 : decode jM_Mo_read.2.1 1 = .ok (.getfield 165, 3) := by decide +kernel
theorem d_Mo_read_4 : decode jM_Mo_read.2.1 4 = .ok (.ifCond .eq 6, 3) := by decide +kernel
theorem d_Mo_read_7 : decode jM_Mo_read.2.1 7 = .ok (.bipush (-4), 2) := by decide +kernel
theorem d_Mo_read_9 : decode jM_Mo_read.2.1 9 = .ok (.ireturn, 1) := by decide +kernel
theorem d_Mo_read_10 : decode jM_Mo_read.2.1 10 = .ok (.aload_n 0, 1) := by decide +kernel
theorem d_Mo_read_11 : decode jM_Mo_read.2.1 11 = .ok (.iconst 0, 1) := by decide +kernel
theorem d_Mo_read_12 : decode jM_Mo_read.2.1 12 = .ok (.putfield 177, 3) := by decide +kernel
theorem d_Mo_read_15 : decode jM_Mo_read.2.1 15 = .ok (.iload_n 1, 1) := by decide +kernel
theorem d_Mo_read_16 : decode jM_Mo_read.2.1 16 = .ok (.invokestatic 193, 3) := by decide +kernel
theorem d_Mo_read_19 : decode jM_Mo_read.2.1 19 = .ok (.ifCond .ne 33, 3) := by decide +kernel
theorem d_Mo_read_22 : decode jM_Mo_read.2.1 22 = .ok (.aload_n 0, 1) := by decide +kernel
theorem d_Mo_read_23 : decode jM_Mo_read.2.1 23 = .ok (.iload_n 3, 1) := by decide +kernel
theorem d_Mo_read_24 : decode jM_Mo_read.2.1 24 = .ok (.invokevirtual 92, 3) := by decide +kernel
theorem d_Mo_read_27 : decode jM_Mo_read.2.1 27 = .ok (.ifCond .ne 25, 3) := by decide +kernel
theorem d_Mo_read_30 : decode jM_Mo_read.2.1 30 = .ok (.aload_n 0, 1) := by decide +kernel
theorem d_Mo_read_31 : decode jM_Mo_read.2.1 31 = .ok (.iload_n 1, 1) := by decide +kernel
theorem d_Mo_read_32 : decode jM_Mo_read.2.1 32 = .ok (.iload_n 3, 1) := by decide +kernel
theorem d_Mo_read_33 : decode jM_Mo_read.2.1 33 = .ok (.invokevirtual 196, 3) := by decide +kernel
theorem d_Mo_read_36 : decode jM_Mo_read.2.1 36 = .ok (.ifCond .eq 16, 3) := by decide +kernel
theorem d_Mo_read_39 : decode jM_Mo_read.2.1 39 = .ok (.iload_n 2, 1) := by decide +kernel
theorem d_Mo_read_40 : decode jM_Mo_read.2.1 40 = .ok (.ifCond .lt 12, 3) := by decide +kernel
theorem d_Mo_read_43 : decode jM_Mo_read.2.1 43 = .ok (.iload_n 2, 1) := by decide +kernel
theorem d_Mo_read_44 : decode jM_Mo_read.2.1 44 = .ok (.aload_n 0, 1) := by decide +kernel
theorem d_Mo_read_45 : decode jM_Mo_read.2.1 45 = .ok (.iload_n 1, 1) := by decide +kernel
theorem d_Mo_read_46 : decode jM_Mo_read.2.1 46 = .ok (.invokevirtual 228, 3) := by decide +kernel
theorem d_Mo_read_49 : decode jM_Mo_read.2.1 49 = .ok (.if_icmp .lt 5, 3) := by decide +kernel
theorem d_Mo_read_52 : decode jM_Mo_read.2.1 52 = .ok (.iconst (-1), 1) := by decide +kernel
theorem d_Mo_read_53 : decode jM_Mo_read.2.1 53 = .ok (.ireturn, 1) := by decide +kernel
theorem d_Mo_read_54 : decode jM_Mo_read.2.1 54 = .ok (.aload_n 0, 1) := by decide +kernel
theorem d_Mo_read_55 : decode jM_Mo_read.2.1 55 = .ok (.iload_n 1, 1) := by decide +kernel
theorem d_Mo_read_56 : decode jM_Mo_read.2.1 56 = .ok (.iload_n 2, 1) := by decide +kernel
theorem d_Mo_read_57 : decode jM_Mo_read.2.1 57 = .ok (.invokevirtual 252, 3) := by decide +kernel
theorem d_Mo_read_60 : decode jM_Mo_read.2.1 60 = .ok (.istore 4, 2) := by decide +kernel
theorem d_Mo_read_62 : decode jM_Mo_read.2.1 62 = .ok (.aload_n 0, 1) := by decide +kernel
theorem d_Mo_read_63 : decode jM_Mo_read.2.1 63 = .ok (.iload 4, 2) := by decide +kernel
theorem d_Mo_read_65 : decode jM_Mo_read.2.1 65 = .ok (.iload_n 3, 1) := by decide +kernel
theorem d_Mo_read_66 : decode jM_Mo_read.2.1 66 = .ok (.invokevirtual 255, 3) := by decide +kernel
theorem d_Mo_read_69 : decode jM_Mo_read.2.1 69 = .ok (.istore 5, 2) := by decide +kernel
theorem d_Mo_read_71 : decode jM_Mo_read.2.1 71 = .ok (.aload_n 0, 1) := by decide +kernel
theorem d_Mo_read_72 : decode jM_Mo_read.2.1 72 = .ok (.iload 5, 2) := by decide +kernel
theorem d_Mo_read_74 : decode jM_Mo_read.2.1 74 = .ok (.bipush 40, 2) := by decide +kernel
theorem d_Mo_read_76 : decode jM_Mo_read.2.1 76 = .ok (.if_icmp .gt 8, 3) := by decide +kernel
theorem d_Mo_read_79 : decode jM_Mo_read.2.1 79 = .ok (.iload 5, 2) := by decide +kernel
theorem d_Mo_read_81 : decode jM_Mo_read.2.1 81 = .ok (.ifCond .ge 7, 3) := by decide +kernel
theorem d_Mo_read_84 : decode jM_Mo_read.2.1 84 = .ok (.iconst 0, 1) := by decide +kernel
theorem d_Mo_read_85 : decode jM_Mo_read.2.1 85 = .ok (.goto 5, 3) := by decide +kernel
theorem d_Mo_read_88 : decode jM_Mo_read.2.1 88 = .ok (.iload 5, 2) := by decide +kernel
theorem d_Mo_read_90 : decode jM_Mo_read.2.1 90 = .ok (.putfield 177, 3) := by decide +kernel
theorem d_Mo_read_93 : decode jM_Mo_read.2.1 93 = .ok (.iload 5, 2) := by decide +kernel
theorem d_Mo_read_95 : decode jM_Mo_read.2.1 95 = .ok (.bipush 40, 2) := by decide +kernel
theorem d_Mo_read_97 : decode jM_Mo_read.2.1 97 = .ok (.if_icmp .le 8, 3) := by decide +kernel
theorem d_Mo_read_100 : decode jM_Mo_read.2.1 100 = .ok (.bipush (-3), 2) := by decide +kernel
theorem d_Mo_read_102 : decode jM_Mo_read.2.1 102 = .ok (.goto 5, 3) := by decide +kernel
theorem d_Mo_read_105 : decode jM_Mo_read.2.1 105 = .ok (.iload 5, 2) := by decide +kernel
theorem d_Mo_read_107 : decode jM_Mo_read.2.1 107 = .ok (.ireturn, 1) := by decide +kernel
theorem d_Mo_number_0 : decode jM_Mo_number.2.1 0 = .ok (.iload_n 1, 1) := by decide +kernel
theorem d_Mo_number_1 : decode jM_Mo_number.2.1 1 = .ok (.ifCond .lt 20, 3) := by decide +kernel
theorem d_Mo_number_4 : decode jM_Mo_number.2.1 4 = .ok (.iload_n 1, 1) := by decide +kernel
theorem d_Mo_number_5 : decode jM_Mo_number.2.1 5 = .ok (.aload_n 0, 1) := by decide +kernel
theorem d_Mo_number_6 : decode jM_Mo_number.2.1 6 = .ok (.getfield 177, 3) := by decide +kernel
theorem d_Mo_number_9 : decode jM_Mo_number.2.1 9 = .ok (.if_icmp .ge 12, 3) := by decide +kernel
theorem d_Mo_number_12 : decode jM_Mo_number.2.1 12 = .ok (.aload_n 0, 1) := by decide +kernel
theorem d_Mo_number_13 : decode jM_Mo_number.2.1 13 = .ok (.getfield 57, 3) := by decide +kernel
theorem d_Mo_number_16 : decode jM_Mo_number.2.1 16 = .ok (.iload_n 1, 1) := by decide +kernel
theorem d_Mo_number_17 : decode jM_Mo_number.2.1 17 = .ok (.laload, 1) := by decide +kernel
theorem d_Mo_number_18 : decode jM_Mo_number.2.1 18 = .ok (.goto 4, 3) := by decide +kernel
theorem d_Mo_number_21 : decode jM_Mo_number.2.1 21 = .ok (.lconst 0, 1) := by decide +kernel
theorem d_Mo_number_22 : decode jM_Mo_number.2.1 22 = .ok (.lreturn, 1) := by decide +kernel
theorem d_Mo_octet_0 : decode jM_Mo_octet.2.1 0 = .ok (.iload_n 1, 1) := by decide +kernel
theorem d_Mo_octet_1 : decode jM_Mo_octet.2.1 1 = .ok (.ifCond .lt 19, 3) := by decide +kernel
theorem d_Mo_octet_4 : decode jM_Mo_octet.2.1 4 = .ok (.iload_n 1, 1) := by decide +kernel
theorem d_Mo_octet_5 : decode jM_Mo_octet.2.1 5 = .ok (.bipush 39, 2) := by decide +kernel
theorem d_Mo_octet_7 : decode jM_Mo_octet.2.1 7 = .ok (.if_icmp .gt 13, 3) := by decide +kernel
theorem d_Mo_octet_10 : decode jM_Mo_octet.2.1 10 = .ok (.iload_n 2, 1) := by decide +kernel
theorem d_Mo_octet_11 : decode jM_Mo_octet.2.1 11 = .ok (.ifCond .lt 9, 3) := by decide +kernel
theorem d_Mo_octet_14 : decode jM_Mo_octet.2.1 14 = .ok (.iload_n 2, 1) := by decide +kernel
theorem d_Mo_octet_15 : decode jM_Mo_octet.2.1 15 = .ok (.bipush 31, 2) := by decide +kernel
theorem d_Mo_octet_17 : decode jM_Mo_octet.2.1 17 = .ok (.if_icmp .le 7, 3) := by decide +kernel
theorem d_Mo_octet_20 : decode jM_Mo_octet.2.1 20 = .ok (.iconst (-1), 1) := by decide +kernel
theorem d_Mo_octet_21 : decode jM_Mo_octet.2.1 21 = .ok (.goto 14, 3) := by decide +kernel
theorem d_Mo_octet_24 : decode jM_Mo_octet.2.1 24 = .ok (.aload_n 0, 1) := by decide +kernel
theorem d_Mo_octet_25 : decode jM_Mo_octet.2.1 25 = .ok (.getfield 48, 3) := by decide +kernel
theorem d_Mo_octet_28 : decode jM_Mo_octet.2.1 28 = .ok (.bipush 32, 2) := by decide +kernel
theorem d_Mo_octet_30 : decode jM_Mo_octet.2.1 30 = .ok (.iload_n 1, 1) := by decide +kernel
theorem d_Mo_octet_31 : decode jM_Mo_octet.2.1 31 = .ok (.imul, 1) := by decide +kernel
theorem d_Mo_octet_32 : decode jM_Mo_octet.2.1 32 = .ok (.iload_n 2, 1) := by decide +kernel
theorem d_Mo_octet_33 : decode jM_Mo_octet.2.1 33 = .ok (.iadd, 1) := by decide +kernel
theorem d_Mo_octet_34 : decode jM_Mo_octet.2.1 34 = .ok (.iaload, 1) := by decide +kernel
theorem d_Mo_octet_35 : decode jM_Mo_octet.2.1 35 = .ok (.ireturn, 1) := by decide +kernel
theorem d_Mo_limit_0 : decode jM_Mo_limit.2.1 0 = .ok (.aload_n 0, 1) := by decide +kernel
theorem d_Mo_limit_1 : decode jM_Mo_limit.2.1 1 = .ok (.getfield 165, 3) := by decide +kernel
theorem d_Mo_limit_4 : decode jM_Mo_limit.2.1 4 = .ok (.ifCond .eq 6, 3) := by decide +kernel
theorem d_Mo_limit_7 : decode jM_Mo_limit.2.1 7 = .ok (.bipush (-4), 2) := by decide +kernel
theorem d_Mo_limit_9 : decode jM_Mo_limit.2.1 9 = .ok (.ireturn, 1) := by decide +kernel
theorem d_Mo_limit_10 : decode jM_Mo_limit.2.1 10 = .ok (.iload_n 1, 1) := by decide +kernel
theorem d_Mo_limit_11 : decode jM_Mo_limit.2.1 11 = .ok (.ifCond .ge 5, 3) := by decide +kernel
theorem d_Mo_limit_14 : decode jM_Mo_limit.2.1 14 = .ok (.iconst (-1), 1) := by decide +kernel
theorem d_Mo_limit_15 : decode jM_Mo_limit.2.1 15 = .ok (.ireturn, 1) := by decide +kernel
theorem d_Mo_limit_16 : decode jM_Mo_limit.2.1 16 = .ok (.aload_n 0, 1) := by decide +kernel
theorem d_Mo_limit_17 : decode jM_Mo_limit.2.1 17 = .ok (.iconst 1, 1) := by decide +kernel
theorem d_Mo_limit_18 : decode jM_Mo_limit.2.1 18 = .ok (.putfield 158, 3) := by decide +kernel
theorem d_Mo_limit_21 : decode jM_Mo_limit.2.1 21 = .ok (.aload_n 0, 1) := by decide +kernel
theorem d_Mo_limit_22 : decode jM_Mo_limit.2.1 22 = .ok (.iload_n 1, 1) := by decide +kernel
theorem d_Mo_limit_23 : decode jM_Mo_limit.2.1 23 = .ok (.putfield 162, 3) := by decide +kernel
theorem d_Mo_limit_26 : decode jM_Mo_limit.2.1 26 = .ok (.iconst 0, 1) := by decide +kernel
theorem d_Mo_limit_27 : decode jM_Mo_limit.2.1 27 = .ok (.ireturn, 1) := by decide +kernel
theorem d_Mo_restart_0 : decode jM_Mo_restart.2.1 0 = .ok (.aload_n 0, 1) := by decide +kernel
theorem d_Mo_restart_1 : decode jM_Mo_restart.2.1 1 = .ok (.getfield 165, 3) := by decide +kernel
theorem d_Mo_restart_4 : decode jM_Mo_restart.2.1 4 = .ok (.ifCond .ne 5, 3) := by decide +kernel
theorem d_Mo_restart_7 : decode jM_Mo_restart.2.1 7 = .ok (.iconst 0, 1) := by decide +kernel
theorem d_Mo_restart_8 : decode jM_Mo_restart.2.1 8 = .ok (.ireturn, 1) := by decide +kernel
theorem d_Mo_restart_9 : decode jM_Mo_restart.2.1 9 = .ok (.aload_n 0, 1) := by decide +kernel
theorem d_Mo_restart_10 : decode jM_Mo_restart.2.1 10 = .ok (.iconst 0, 1) := by decide +kernel
theorem d_Mo_restart_11 : decode jM_Mo_restart.2.1 11 = .ok (.putfield 165, 3) := by decide +kernel
theorem d_Mo_restart_14 : decode jM_Mo_restart.2.1 14 = .ok (.iconst 1, 1) := by decide +kernel
theorem d_Mo_restart_15 : decode jM_Mo_restart.2.1 15 = .ok (.ireturn, 1) := by decide +kernel
theorem d_Mo_writes_0 : decode jM_Mo_writes.2.1 0 = .ok (.aload_n 0, 1) := by decide +kernel
theorem d_Mo_writes_1 : decode jM_Mo_writes.2.1 1 = .ok (.getfield 180, 3) := by decide +kernel
theorem d_Mo_writes_4 : decode jM_Mo_writes.2.1 4 = .ok (.ireturn, 1) := by decide +kernel
